/-! leaves of the reference -/
theorem br_cl {x y : Int64} {A B : Prop} (a b : Int) (hx : x.toInt = a) (hy : y.toInt = b) (hA : a < b → A) (hB : b ≤ a → B) : (lg_cmp x y < 0 → A) ∧ (¬ (lg_cmp x y < 0) → B) :=
  ⟨fun h => hA (by rw [lg_cmp_lt, Int64.lt_iff_toInt_lt, hx, hy] at h; exact h), fun h => hB (by rw [lg_cmp_lt, Int64.lt_iff_toInt_lt, hx, hy] at h; omega)⟩
theorem br_cg {x y : Int64} {A B : Prop} (a b : Int) (hx : x.toInt = a) (hy : y.toInt = b) (hA : b < a → A) (hB : a ≤ b → B) : ((0 : Int32) < lg_cmp x y → A) ∧ (¬ ((0 : Int32) < lg_cmp x y) → B) :=
  ⟨fun h => hA (by rw [lg_cmp_gt, Int64.lt_iff_toInt_lt, hx, hy] at h; exact h), fun h => hB (by rw [lg_cmp_gt, Int64.lt_iff_toInt_lt, hx, hy] at h; omega)⟩
theorem sp_X7_in {x : Int32} {a b : Int64} {Q : Int32 → Prop} (hQ : Q (bz (a.toInt ≤ x.toInt ∧ x.toInt ≤ b.toInt))) : wp_X7_in (Int32.toInt64 x) a b Q := by
  unfold wp_X7_in
  have e : (Int32.toInt64 x).toInt = x.toInt := Int32.toInt_toInt64 x
  refine br_cl _ _ e rfl (fun h => ?_) (fun h => br_cg _ _ e rfl (fun h2 => ?_) (fun h2 => ?_))
  · rw [bz_f (by omega)] at hQ; exact hQ
  · rw [bz_f (by omega)] at hQ; exact hQ
  · rw [bz_t (by omega)] at hQ; exact hQ
theorem sp_X7_isThing {x : Int32} {Q : Int32 → Prop} (hQ : Q (bz (0 ≤ x.toInt ∧ x.toInt ≤ 5))) : wp_X7_isThing x Q := sp_X7_in (a := 0) (b := 5) hQ
theorem sp_X7_isSum {x : Int32} {Q : Int32 → Prop} (hQ : Q (bz (0 ≤ x.toInt ∧ x.toInt ≤ 999))) : wp_X7_isSum x Q := sp_X7_in (a := 0) (b := 999) hQ
theorem sp_X7_isPurse {x : Int32} {Q : Int32 → Prop} (hQ : Q (bz (0 ≤ x.toInt ∧ x.toInt ≤ 3))) : wp_X7_isPurse x Q := sp_X7_in (a := 0) (b := 3) hQ
theorem sp_X7_isSpan {x y : Int32} {Q : Int32 → Prop} (hQ : Q (bz (0 ≤ x.toInt ∧ x.toInt ≤ y.toInt ∧ y.toInt ≤ 999))) : wp_X7_isSpan x y Q := by
  unfold wp_X7_isSpan
  refine sp_X7_isSum (bz_e (fun h => ?_) (fun h => sp_X7_in (bz_e (fun h2 => ?_) (fun h2 => ?_))))
  · rw [bz_f (by omega)] at hQ; exact hQ
  · rw [Int32.toInt_toInt64] at h2
    have e : (999 : Int64).toInt = 999 := rfl
    rw [e] at h2
    rw [bz_f (by omega)] at hQ; exact hQ
  · rw [Int32.toInt_toInt64] at h2
    have e : (999 : Int64).toInt = 999 := rfl
    rw [e] at h2
    rw [bz_t (by omega)] at hQ; exact hQ
theorem sp_X7_oneWorth {T : Tn} {less worth : Nat → Int32} (hT : Tok T) (hw : aN worth (tW T) 6) (hl : aN less (tL T) 6) {t j : Nat} (ht : t < 6) (hj : j ≤ 10) {Q : Int32 → Prop} (hQ : Q (iI ((tW T t - j * tL T t : Nat) : Int))) : wp_X7_oneWorth (iI (t : Int)) (iI (j : Int)) less worth Q := by
  unfold wp_X7_oneWorth
  have hb := hT.1 t ht
  have hm := mul_b hj hb.2.2.2
  have hin : vp_in (iI (t : Int)) 6 := iI_in (by omega) (by omega) (by omega)
  refine ⟨hin, hin, nm_r (e' := iI ((tW T t : Int) - ((j * tL T t : Nat) : Int))) ?_ (br_le ((tW T t : Int) - ((j * tL T t : Nat) : Int)) 0 (tI (by omega)) rfl (fun h => ?_) (fun h => ?_))⟩
  · rw [iI_clN (by omega), hw t ht, hl t ht, iI_mul, iI_sub, ← Int.natCast_mul]
  · have e : tW T t - j * tL T t = 0 := by omega
    rw [e] at hQ; exact hQ
  · have e : ((tW T t - j * tL T t : Nat) : Int) = (tW T t : Int) - ((j * tL T t : Nat) : Int) := by omega
    rw [e] at hQ; exact hQ
theorem lo_X7_worthOf {T : Tn} {less worth : Nat → Int32} (hT : Tok T) (hw : aN worth (tW T) 6) (hl : aN less (tL T) 6) {t k : Nat} (ht : t < 6) (hk : k ≤ 10) {K : Int32 → Prop} (hK : K (iI (wN (tW T t) (tL T t) k : Int))) :
    ∀ r j, j + r = k → wl_X7_worthOf_5 (iI (t : Int)) (iI (k : Int)) less worth K (r + 1) (iI (wN (tW T t) (tL T t) j : Int)) (iI (j : Int)) := by
  intro r
  induction r with
  | zero =>
    intro j hj
    have : j = k := by omega
    subst this
    show wb_X7_worthOf_5 _ _ _ _ _ _ _ _
    unfold wb_X7_worthOf_5
    exact br_le _ _ rfl rfl (fun _ => hK) (fun h => absurd h (by omega))
  | succ r ih =>
    intro j hj
    show wb_X7_worthOf_5 _ _ _ _ _ _ _ _
    unfold wb_X7_worthOf_5
    refine br_le (k : Int) (j : Int) (tN (by omega)) (tN (by omega)) (fun h => absurd h (by omega)) (fun _ => ?_)
    refine sp_X7_oneWorth hT hw hl ht (by omega) ?_
    refine nm_r (e' := iI (wN (tW T t) (tL T t) (j + 1) : Int)) ?_ (nm_r (e' := iI ((j + 1 : Nat) : Int)) (iI_add _ 1) (ih (j + 1) (by omega)))
    rw [iI_add, wN]
    congr 1
theorem sp_X7_worthOf {T : Tn} {less worth : Nat → Int32} (hT : Tok T) (hw : aN worth (tW T) 6) (hl : aN less (tL T) 6) {t k : Nat} (ht : t < 6) (hk : k ≤ 10) {Q : Int32 → Prop} (hQ : Q (iI (wN (tW T t) (tL T t) k : Int))) : wp_X7_worthOf (iI (t : Int)) (iI (k : Int)) less worth Q :=
  ⟨k + 1, lo_X7_worthOf hT hw hl ht hk (K := fun k_x3 => wx_X7_worthOf_5 k_x3 Q) hQ k 0 (by omega)⟩
/-- how many of a thing there may be -/
def mst (T : Tn) (t : Nat) : Nat := if tP T t = 0 then 0 else tS T t
theorem sp_X7_most {T : Tn} {price stock : Nat → Int32} (hT : Tok T) (hp : aN price (tP T) 6) (hst : aN stock (tS T) 6) {t : Nat} (ht : t < 6) {Q : Int32 → Prop} (hQ : Q (iI (mst T t : Int))) : wp_X7_most (iI (t : Int)) price stock Q := by
  unfold wp_X7_most
  have hb := hT.1 t ht
  have hin : vp_in (iI (t : Int)) 6 := iI_in (by omega) (by omega) (by omega)
  rw [iI_clN (by omega), hp t ht, hst t ht]
  refine ⟨hin, br_ne (tP T t : Int) 0 (tN (by omega)) rfl (fun h => ⟨hin, ?_⟩) (fun h => ?_)⟩
  · unfold mst at hQ; rw [if_neg (by omega)] at hQ; exact hQ
  · unfold mst at hQ; rw [if_pos (by omega)] at hQ; exact hQ
theorem mst_nS {T : Tn} {m t : Nat} (h : Nat.testBit m t = true) : nS T m t = mst T t + 1 := by
  unfold nS mst sold
  rw [h, Bool.true_and]
  by_cases hP : tP T t = 0
  · rw [if_pos hP, if_neg (by rw [decide_eq_true_iff]; omega)]
  · rw [if_neg hP, if_pos (by rw [decide_eq_true_iff]; omega)]
/-- a worth as the reference has it -/
def em (o : Option Int) : Int32 := match o with
  | none => iI (-6)
  | some v => iI v
theorem wo_stop {P : Nat} {f : Nat → Int32} {s j : Nat} (h : s < j * P) : ∀ n, j ≤ n → wo P n f s = wo P j f s := by
  intro n
  induction n with
  | zero => intro hj; rw [show j = 0 by omega]
  | succ n ih =>
    intro hj
    by_cases e : j = n + 1
    · rw [e]
    · have h2 : j * P ≤ n * P := Nat.mul_le_mul_right P (by omega)
      rw [wo_succ, if_neg (by omega), ih (by omega)]
      exact Int32.add_zero _
/-- worths in their bounds -/
def Vb (V : Nat → Option Int) (B : Int) : Prop := ∀ s v, V s = some v → 0 ≤ v ∧ v ≤ B
theorem Vb_mo {P : Nat} {V : Nat → Option Int} {w : Nat → Int} {B C : Int} (h : Vb V B) (hw : ∀ k, k < 10 → 0 ≤ w k ∧ w k ≤ C) {n : Nat} (hn : n ≤ 10) : Vb (mo P w n V) (B + C) := by
  intro s v hv
  obtain ⟨k, x, a, -, c, d⟩ := mo_some n hv
  have h1 := h _ _ c
  have h2 := hw k (by omega)
  omega
theorem lo_X7_fillRow_18 {T : Tn} {less price stock worth best many : Nat → Int32} (hT : Tok T) (hp : aN price (tP T) 6) (hst : aN stock (tS T) 6) (hw : aN worth (tW T) 6) (hl : aN less (tL T) 6) {t s : Nat} (ht : t < 6) (hs : s < 1000) {V : Nat → Option Int} {Wy : Nat → Int32} (hV : Vb V 10000) (h1 : ∀ s, s < 1000 → best (1000 * (t + 1) + s) = em (V s)) (h2 : ∀ s, s < 1000 → many (1000 * (t + 1) + s) = Wy s) {K : Int32 → Int32 → Prop} (hK : K (em (mo (tP T t) (fun k => (wN (tW T t) (tL T t) k : Int)) (mst T t + 1) V s)) (wo (tP T t) (mst T t + 1) Wy s)) :
    ∀ r j, j + r = mst T t + 1 → wl_X7_fillRow_18 (iI (t : Int)) (iI (s : Int)) best less many price stock worth K (r + 1) (em (mo (tP T t) (fun k => (wN (tW T t) (tL T t) k : Int)) j V s)) (wo (tP T t) j Wy s) (iI (j : Int)) := by
  have hb := hT.1 t ht
  have hmst : mst T t ≤ 9 := by unfold mst; split <;> omega
  have hin : vp_in (iI (t : Int)) 6 := iI_in (by omega) (by omega) (by omega)
  have hwb : ∀ k, k < 10 → (0 : Int) ≤ (wN (tW T t) (tL T t) k : Int) ∧ (wN (tW T t) (tL T t) k : Int) ≤ 990 := fun k hk => by
    have := wN_b T hT ht (k := k) (by omega)
    omega
  intro r
  induction r with
  | zero =>
    intro j hj
    show wb_X7_fillRow_18 _ _ _ _ _ _ _ _ _ _ _ _ _
    unfold wb_X7_fillRow_18
    refine sp_X7_most hT hp hst ht ?_
    refine br_lt (mst T t : Int) (j : Int) (tN (by omega)) (tN (by omega)) (fun _ => ?_) (fun h => absurd h (by omega))
    rw [show j = mst T t + 1 by omega]; exact hK
  | succ r ih =>
    intro j hj
    have hm := mul_b (show j ≤ 9 by omega) hb.1
    show wb_X7_fillRow_18 _ _ _ _ _ _ _ _ _ _ _ _ _
    unfold wb_X7_fillRow_18
    refine sp_X7_most hT hp hst ht ?_
    refine br_lt (mst T t : Int) (j : Int) (tN (by omega)) (tN (by omega)) (fun h => absurd h (by omega)) (fun _ => ⟨hin, ?_⟩)
    rw [iI_clN (by omega), hp t ht, iI_mul, ← Int.natCast_mul]
    refine br_lt (s : Int) ((j * tP T t : Nat) : Int) (tN (by omega)) (tN (by omega)) (fun h => ?_) (fun h => ⟨hin, ?_⟩)
    · rw [← mo_stop (n := mst T t + 1) (by omega) (by omega), ← wo_stop (n := mst T t + 1) (by omega) (by omega)]; exact hK
    · have hjs : j * tP T t ≤ s := by omega
      have ea : ((((1000 : Int32) * (iI (t : Int) + (1 : Int32))) + iI (s : Int)) - iI ((j * tP T t : Nat) : Int)) = iI ((1000 * (t + 1) + (s - j * tP T t) : Nat) : Int) := by
        rw [show iI (t : Int) + (1 : Int32) = iI ((t : Int) + 1) from iI_add _ 1, show (1000 : Int32) * iI ((t : Int) + 1) = iI (1000 * ((t : Int) + 1)) from iI_mul 1000 _, iI_add, iI_sub]
        congr 1; omega
      have hat : vp_in (iI ((1000 * (t + 1) + (s - j * tP T t) : Nat) : Int)) 7000 := iI_in (by omega) (by omega) (by omega)
      have e3 : iI (j : Int) + 1 = iI ((j + 1 : Nat) : Int) := iI_add _ 1
      have hmo : mo (tP T t) (fun k => (wN (tW T t) (tL T t) k : Int)) (j + 1) V s = omax (mo (tP T t) (fun k => (wN (tW T t) (tL T t) k : Int)) j V s) ((V (s - j * tP T t)).map (fun v => v + (wN (tW T t) (tL T t) j : Int))) := by rw [mo_succ, if_pos hjs]
      have hwo : wo (tP T t) (j + 1) Wy s = wo (tP T t) j Wy s + Wy (s - j * tP T t) := by rw [wo_succ, if_pos hjs]
      have hI := ih (j + 1) (by omega)
      rw [hwo] at hI
      refine nm_r ea ⟨hat, ?_⟩
      rw [iI_clN (by omega), h1 _ (by omega), h2 _ (by omega)]
      cases hv : V (s - j * tP T t) with
      | none =>
        rw [hv] at hmo
        rw [hmo] at hI
        simp only [Option.map, omax_none] at hI
        refine br_le 0 (-6) rfl (tI (z := -6) (by omega)) (fun h => absurd h (by omega)) (fun _ => ?_)
        cases hc : mo (tP T t) (fun k => (wN (tW T t) (tL T t) k : Int)) j V s with
        | none =>
          rw [hc] at hI
          exact br_le (-6) (-6) rfl (tI (z := -6) (by omega)) (fun _ => ⟨hat, nm_r rfl (nm_r e3 hI)⟩) (fun h => absurd h (by omega))
        | some y =>
          have hy := Vb_mo hV hwb (show j ≤ 10 by omega) _ _ hc
          rw [hc] at hI
          exact br_le (-6) y rfl (tI (z := y) (by omega)) (fun _ => ⟨hat, nm_r rfl (nm_r e3 hI)⟩) (fun h => absurd h (by omega))
      | some x =>
        have hx := hV _ _ hv
        have hwj := hwb j (by omega)
        rw [hv] at hmo
        rw [hmo] at hI
        refine br_le 0 x rfl (tI (z := x) (by omega)) (fun _ => ⟨hat, ?_⟩) (fun h => absurd h (by omega))
        refine sp_X7_worthOf hT hw hl ht (by omega) (nm_r (e' := iI (x + (wN (tW T t) (tL T t) j : Int))) (iI_add _ _) ?_)
        cases hc : mo (tP T t) (fun k => (wN (tW T t) (tL T t) k : Int)) j V s with
        | none =>
          rw [hc] at hI
          exact br_le (x + (wN (tW T t) (tL T t) j : Int)) (-6) (tI (by omega)) (tI (z := -6) (by omega)) (fun h => absurd h (by omega)) (fun _ => ⟨hat, nm_r rfl (nm_r e3 hI)⟩)
        | some y =>
          have hy := Vb_mo hV hwb (show j ≤ 10 by omega) _ _ hc
          rw [hc] at hI
          refine br_le (x + (wN (tW T t) (tL T t) j : Int)) y (tI (by omega)) (tI (z := y) (by omega)) (fun h => ⟨hat, nm_r rfl (nm_r e3 ?_)⟩) (fun h => ⟨hat, nm_r rfl (nm_r e3 ?_)⟩)
          · have e5 : omax (some y) (Option.map (fun v => v + (wN (tW T t) (tL T t) j : Int)) (some x)) = some y := by
              show some (if y ≤ x + (wN (tW T t) (tL T t) j : Int) then x + (wN (tW T t) (tL T t) j : Int) else y) = some y
              congr 1; split <;> omega
            rw [e5] at hI
            exact hI
          · have e5 : omax (some y) (Option.map (fun v => v + (wN (tW T t) (tL T t) j : Int)) (some x)) = some (x + (wN (tW T t) (tL T t) j : Int)) := by
              show some (if y ≤ x + (wN (tW T t) (tL T t) j : Int) then x + (wN (tW T t) (tL T t) j : Int) else y) = some (x + (wN (tW T t) (tL T t) j : Int))
              congr 1; split <;> omega
            rw [e5] at hI
            exact hI
