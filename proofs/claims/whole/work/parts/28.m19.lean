/-! priced -/
def Tpr (T : Tn) (t v : Nat) : Tn := (upN (tP T) t v, T.2)
theorem Tpr_ok {T : Tn} (hT : Tok T) {t v : Nat} (hv : v ≤ 99) : Tok (Tpr T t v) := by
  refine ⟨fun j hj => ?_, hT.2⟩
  refine ⟨?_, (hT.1 j hj).2⟩
  show upN (tP T) t v j ≤ 99
  unfold upN
  by_cases e : j = t
  · rw [if_pos e]; exact hv
  · rw [if_neg e]; exact (hT.1 j hj).1
theorem fwd_congr {F : Type} {A B : Nat → F → F} : ∀ n, (∀ i, i < n → ∀ f, A i f = B i f) → ∀ f, fwd A n f = fwd B n f := by
  intro n
  induction n with
  | zero => intro _ f; rfl
  | succ n ih =>
    intro h f
    rw [fwd, fwd, ih (fun i hi => h i (by omega)), h n (by omega)]
theorem fwd_out {F : Type} (A B : Nat → F → F) (hc : ∀ i j f, A i (A j f) = A j (A i f)) (t : Nat) (h2 : ∀ f, B t f = f) : ∀ n, (∀ i, i < n → i ≠ t → ∀ f, A i f = B i f) → ∀ f, fwd A n f = if t < n then A t (fwd B n f) else fwd B n f := by
  intro n
  induction n with
  | zero => intro _ f; rw [if_neg (by omega)]; rfl
  | succ n ih =>
    intro h1 f
    have hI := ih (fun i hi hn => h1 i (by omega) hn) f
    rw [fwd, fwd, hI]
    by_cases e : n = t
    · subst e
      rw [if_neg (by omega), if_pos (by omega), h2]
    · by_cases g : t < n
      · rw [if_pos g, if_pos (by omega), hc, h1 n (by omega) e]
      · rw [if_neg g, if_neg (by omega), h1 n (by omega) e]
def mw (t : Nat) : Nat := 63 - 2 ^ t
theorem mw_bit : ∀ t : Nat, t < 6 → ∀ i : Nat, i < 6 → Nat.testBit (mw t) i = decide (i ≠ t) := by decide
theorem mw_lt (t : Nat) : mw t < 64 := Nat.lt_of_le_of_lt (Nat.sub_le _ _) (by decide)
theorem mw_e : ∀ t : Nat, t < 6 → ((63 : Int32) &&& (((1 : Int32) <<< (iI (t : Int) &&& 31)) ^^^ (-1 : Int32))) = iI ((mw t : Nat) : Int) := by decide +kernel
theorem rk_out {T : Tn} {t v : Nat} (ht : t < 6) (hv : 0 < v) : rk (Tpr T t v) 63 = mo v (gk T t) (tS T t + 1) (rk T (mw t)) := by
  have hb63 : ∀ i, i < 6 → Nat.testBit 63 i = true := fun i hi => (bits63 i hi).mpr ⟨by omega, by omega⟩
  have eo : ∀ i, i < 6 → i ≠ t → ∀ f, ro (Tpr T t v) 63 i f = ro T (mw t) i f := by
    intro i hi hn f
    unfold ro nS sold
    rw [hb63 i hi, mw_bit t ht i hi, decide_eq_true hn]
    have e1 : tP (Tpr T t v) i = tP T i := if_neg hn
    rw [e1]
    rfl
  unfold rk
  rw [fwd_out (ro (Tpr T t v) 63) (ro T (mw t)) (fun i j f => mo_comm _ _ _ _ _ _ f) t (fun f => ro_un T (mw t) t (un_sold (by rw [mw_bit t ht t ht]; exact decide_eq_false (fun q => q rfl))) f) 6 eo, if_pos ht]
  have e1 : tP (Tpr T t v) t = v := if_pos rfl
  unfold ro nS sold
  rw [hb63 t ht, e1, decide_eq_true hv]
  rfl
theorem Grd_lt (T : Tn) (m : Nat) : ∀ n t s (d : Nat → Nat), Grd T m t n s d → ∀ i, t ≤ i → i < t + n → d i < nS T m i := by
  intro n
  induction n with
  | zero => intro t s d _ i h1 h2; omega
  | succ n ih =>
    intro t s d h i h1 h2
    simp only [Grd] at h
    obtain ⟨⟨v, -, hF⟩, hg⟩ := h
    by_cases e : i = t
    · rw [e]; exact hF.1
    · exact ih (t + 1) _ d hg i (by omega) (by omega)
/-- a rank without thing t, and k of it put beside -/
theorem out_x {T : Tn} (hT : Tok T) {t s k : Nat} (ht : t < 6) (hk : k ≤ 9) {x : Int} (h : rk T (mw t) s = some x) : (-1000000 < x + gk T t k ∧ x + gk T t k < 1000000000000) ∧ rc_ (x + gk T t k) t = (k : Int) := by
  have hx := rk_b hT h
  have hx6 := (fwd_b T hT (mw t) 6 (by omega) s x h).2
  have hg := gk_b T hT ht (k := k) (by omega)
  obtain ⟨c, hc9, hc⟩ := best_all T hT (mw t) 6 0 rfl
  rw [rk_rS] at h
  rcases hc s with ⟨-, h2⟩ | ⟨v, h1, h2, h3, h4⟩
  · rw [h] at h2; cases h2
  · rw [h] at h3
    have hd := Grd_lt T (mw t) 6 0 s (c s) h4 t (by omega) (by omega)
    have en : nS T (mw t) t = 1 := by
      unfold nS
      rw [if_neg (by rw [un_sold (by rw [mw_bit t ht t ht]; exact decide_eq_false (fun q => q rfl))]; decide)]
    have hd0 : c s t = 0 := by omega
    have hd9 : ∀ i, upN (c s) t k i ≤ 9 := by
      intro i
      unfold upN
      by_cases e : i = t
      · rw [if_pos e]; exact hk
      · rw [if_neg e]; exact hc9 s i
    have ec : (cod (upN (c s) t k) 0 6 : Int) = (cod (c s) 0 6 : Int) + (k : Int) * (p10 t : Int) := by
      rw [cod6, cod6]
      unfold upN
      have e5 : (p10 0 : Int) = 100000 ∧ (p10 1 : Int) = 10000 ∧ (p10 2 : Int) = 1000 ∧ (p10 3 : Int) = 100 ∧ (p10 4 : Int) = 10 ∧ (p10 5 : Int) = 1 := ⟨rfl, rfl, rfl, rfl, rfl, rfl⟩
      rcases (show t = 0 ∨ t = 1 ∨ t = 2 ∨ t = 3 ∨ t = 4 ∨ t = 5 by omega) with rfl | rfl | rfl | rfl | rfl | rfl
      · rw [e5.1]; simp only [if_true]; simp; omega
      · rw [e5.2.1]; simp only [if_true]; simp; omega
      · rw [e5.2.2.1]; simp only [if_true]; simp; omega
      · rw [e5.2.2.2.1]; simp only [if_true]; simp; omega
      · rw [e5.2.2.2.2.1]; simp only [if_true]; simp; omega
      · rw [e5.2.2.2.2.2]; simp only [if_true]; simp; omega
    have ex : x + gk T t k = (v + (wN (tW T t) (tL T t) k : Int)) * 1000000 - (cod (upN (c s) t k) 0 6 : Int) := by
      cases h3
      rw [ec]
      unfold gk
      rw [Int.add_mul]
      omega
    have hl := (cod_lt (upN (c s) t k) hd9 6 0 rfl).1
    have hp0 : p10 0 = 100000 := rfl
    refine ⟨⟨?_, by omega⟩, ?_⟩
    · rw [ex]; omega
    · rw [ex]
      refine (rc_cod hd9 ht).trans ?_
      unfold upN
      rw [if_pos rfl]
theorem out_Bd {T : Tn} (hT : Tok T) {t : Nat} (ht : t < 6) : Bd (rk T (mw t)) (gk T t) := fun s x h => ⟨rk_b hT h, fun k hk => (out_x hT ht (by omega) h).1⟩
/-- the count that countBeside holds -/
def cbI (f : Nat → Option Int) (g : Nat → Int) (v s : Nat) (o : Option Int) (j : Nat) (k : Nat) : Prop := match o with
  | none => k = 0
  | some y => ∃ x, k < j ∧ k * v ≤ s ∧ f (s - k * v) = some x ∧ y = x + g k
theorem lo_X3_countBeside {T : Tn} (hT : Tok T) {m : Nat} {ranks gains : Nat → Int64} (hr : RKs T m ranks) {g : Nat → Int} (hg : ∀ k, k < 10 → gains k = lI (g k)) (hb : Bd (rk T m) g) {s v S : Nat} (hs : s < 1000) (hv : v ≤ 99) (hS : S ≤ 9) {K : Int32 → Prop} (hK : ∀ k : Nat, cbI (rk T m) g v s (mo v g (S + 1) (rk T m) s) (S + 1) k → K (iI (k : Int))) :
    ∀ r j, j + r = S + 1 → ∀ k : Nat, cbI (rk T m) g v s (mo v g j (rk T m) s) j k → wl_X3_countBeside_14 (iI (v : Int)) (iI (S : Int)) gains ranks K (r + 1) (enc (mo v g j (rk T m) s)) (iI (k : Int)) (iI ((s : Int) - ((j * v : Nat) : Int))) (iI (j : Int)) := by
  intro r
  induction r with
  | zero =>
    intro j hj k hk
    show wb_X3_countBeside_14 _ _ _ _ _ _ _ _ _ _
    unfold wb_X3_countBeside_14
    refine br_lt (S : Int) (j : Int) (tN (by omega)) (tN (by omega)) (fun _ => ?_) (fun h => absurd h (by omega))
    rw [show j = S + 1 by omega] at hk; exact hK k hk
  | succ r ih =>
    intro j hj k hk
    have hm := mul_b (show j ≤ 9 by omega) hv
    have e2 : iI ((s : Int) - ((j * v : Nat) : Int)) - iI (v : Int) = iI ((s : Int) - (((j + 1) * v : Nat) : Int)) := by
      rw [iI_sub, Nat.succ_mul]; congr 1; omega
    have e3 : iI (j : Int) + 1 = iI ((j + 1 : Nat) : Int) := iI_add _ 1
    have eI : (iI ((s : Int) - ((j * v : Nat) : Int))).toInt = (s : Int) - ((j * v : Nat) : Int) := tI (by omega)
    show wb_X3_countBeside_14 _ _ _ _ _ _ _ _ _ _
    unfold wb_X3_countBeside_14
    refine br_lt (S : Int) (j : Int) (tN (by omega)) (tN (by omega)) (fun h => absurd h (by omega)) (fun _ => ?_)
    refine br_le 10 (j : Int) rfl (tN (by omega)) (fun h => absurd h (by omega)) (fun _ => ?_)
    refine sp_X3_comesOut hT hr ?_
    rw [eI]
    have hs1 : mo v g (j + 1) (rk T m) s = omax (mo v g j (rk T m) s) (if j * v ≤ s then (rk T m (s - j * v)).map (fun w => w + g j) else none) := mo_succ _ _ _ _ _
    refine bz_e (fun hn => ?_) (fun hy => ?_)
    · have es : mo v g (j + 1) (rk T m) s = mo v g j (rk T m) s := by
        rw [hs1]
        by_cases q : j * v ≤ s
        · rw [if_pos q]
          cases hq : rk T m (s - j * v) with
          | none => exact omax_none _
          | some x => exact absurd ⟨⟨by omega, by omega⟩, by rw [show ((s : Int) - ((j * v : Nat) : Int)).toNat = s - j * v by omega, hq]; rfl⟩ hn
        · rw [if_neg q]; exact omax_none _
      refine nm_r e2 (nm_r e3 ?_)
      have hI := ih (j + 1) (by omega) k
      rw [es] at hI
      refine hI ?_
      cases hq : mo v g j (rk T m) s with
      | none => rw [hq] at hk; exact hk
      | some y =>
        rw [hq] at hk
        obtain ⟨x, k1, k2⟩ := hk
        exact ⟨x, by omega, k2⟩
    · have hjs : j * v ≤ s := by omega
      have hN : ((s : Int) - ((j * v : Nat) : Int)).toNat = s - j * v := by omega
      have hin : vp_in (iI ((s : Int) - ((j * v : Nat) : Int))) 1000 := iI_in (by omega) (by omega) (by omega)
      have hin2 : vp_in (iI (j : Int)) 10 := iI_in (by omega) (by omega) (by omega)
      have hy2 := hy.2
      rw [hN] at hy2
      cases hx : rk T m (s - j * v) with
      | none => rw [hx] at hy2; cases hy2
      | some x =>
        have eC : Int32.toNatClampNeg (iI ((s : Int) - ((j * v : Nat) : Int))) = s - j * v := by rw [iI_cl (by omega) (by omega)]; exact hN
        have eS : ranks (Int32.toNatClampNeg (iI ((s : Int) - ((j * v : Nat) : Int)))) + gains (Int32.toNatClampNeg (iI (j : Int))) = lI (x + g j) := by
          rw [eC, iI_clN (by omega), hr _ (by omega), hx, hg j (by omega)]
          exact lI_add _ _
        rw [eS]
        obtain ⟨b1, b3⟩ := hb _ _ hx
        have b4 := b3 j (by omega)
        rw [if_pos hjs, hx] at hs1
        refine ⟨hin, hin2, ?_⟩
        cases hq : mo v g j (rk T m) s with
        | none =>
          rw [hq] at hs1 hk
          have hI := ih (j + 1) (by omega) j
          rw [hs1] at hI
          refine br_cle (x + g j) (-1000000) (tJ (by omega)) rfl (fun h => absurd h (by omega)) (fun _ => ⟨hin, hin2, nm_r rfl (nm_r e2 (nm_r e3 (hI ⟨x, by omega, hjs, hx, rfl⟩)))⟩)
        | some y =>
          have hyb := Bd_mo hb (by omega) hq
          rw [hq] at hs1 hk
          refine br_cle (x + g j) y (tJ (by omega)) (tJ (by omega)) (fun h => ?_) (fun h => ⟨hin, hin2, nm_r rfl (nm_r e2 (nm_r e3 ?_))⟩)
          · have e5 : omax (some y) (Option.map (fun w => w + g j) (some x)) = some y := by
              show some (if y ≤ x + g j then x + g j else y) = some y
              congr 1; split <;> omega
            rw [e5] at hs1
            have hI := ih (j + 1) (by omega) k
            rw [hs1] at hI
            obtain ⟨x2, k1, k2⟩ := hk
            exact nm_r e2 (nm_r e3 (hI ⟨x2, by omega, k2⟩))
          · have e5 : omax (some y) (Option.map (fun w => w + g j) (some x)) = some (x + g j) := by
              show some (if y ≤ x + g j then x + g j else y) = some (x + g j)
              congr 1; split <;> omega
            rw [e5] at hs1
            have hI := ih (j + 1) (by omega) j
            rw [hs1] at hI
            exact hI ⟨x, by omega, hjs, hx, rfl⟩
theorem sp_X3_countBeside {T : Tn} (hT : Tok T) {t : Nat} (ht : t < 6) {ranks gains : Nat → Int64} (hr : RKs T (mw t) ranks) (hg : ∀ k, k < 10 → gains k = lI (gk T t k)) {z : Int} (hz : 0 ≤ z ∧ z ≤ 999) {v : Nat} (hv : 0 < v ∧ v ≤ 99) {Q : Int32 → Prop} (hQ : Q (iI (kO (Tpr T t v) z t))) : wp_X3_countBeside (iI z) (iI (v : Int)) (iI (tS T t : Int)) gains ranks Q := by
  unfold wp_X3_countBeside
  refine nm_r rfl ⟨tS T t + 2, ?_⟩
  have := lo_X3_countBeside hT hr hg (out_Bd hT ht) (show z.toNat < 1000 by omega) hv.2 (hT.1 t ht).2.1 (K := fun k => wx_X3_countBeside_14 k Q) ?_ (tS T t + 1) 0 (by omega) 0 rfl
  · rw [Nat.zero_mul] at this
    have e : ((z.toNat : Int) - ((0 : Nat) : Int)) = z := by omega
    rw [e] at this
    exact this
  · intro k hk
    show wx_X3_countBeside_14 _ _
    unfold wx_X3_countBeside_14
    unfold kO at hQ
    rw [rk_out ht hv.1] at hQ
    cases hq : mo v (gk T t) (tS T t + 1) (rk T (mw t)) z.toNat with
    | none =>
      rw [hq] at hQ hk
      have : k = 0 := hk
      rw [this]; exact hQ
    | some y =>
      rw [hq] at hQ hk
      obtain ⟨x, k1, k2, k3, k4⟩ := hk
      have h9 := (hT.1 t ht).2.1
      have h8 := (out_x hT ht (k := k) (by omega) k3).2
      rw [← k4] at h8
      rw [← h8]; exact hQ
/-- how many of thing t the purses buy, priced v -/
def bsu (T : Tn) (t v : Nat) : Nat → Nat → Int → Int
  | 0, _, n => n
  | r + 1, p, n => bsu T t v r (p + 1) (if pO T (p : Int) = true then n + kO (Tpr T t v) (tQ T p) t else n)
theorem bsu_b {T : Tn} (hT : Tok T) {t v : Nat} (hv : v ≤ 99) : ∀ r p (n : Int), 0 ≤ n → 0 ≤ bsu T t v r p n ∧ bsu T t v r p n ≤ n + 9 * (r : Int) := by
  intro r
  induction r with
  | zero => intro p n hn; exact ⟨hn, by show n ≤ _; omega⟩
  | succ r ih =>
    intro p n hn
    have hk := kO_b (Tpr_ok hT (t := t) hv) (tQ T p) t
    rw [bsu]
    by_cases h : pO T (p : Int) = true
    · rw [if_pos h]
      have := ih (p + 1) (n + kO (Tpr T t v) (tQ T p) t) (by omega)
      omega
    · rw [if_neg h]
      have := ih (p + 1) n hn
      omega
theorem sp_X6_boughtAt {T : Tn} (hT : Tok T) {purse : Nat → Int32} (hp : pN purse T) {t : Nat} (ht : t < 6) {ranks gains : Nat → Int64} (hr : RKs T (mw t) ranks) (hg : ∀ k, k < 10 → gains k = lI (gk T t k)) {v : Nat} (hv : 0 < v ∧ v ≤ 99) {Q : Int32 → Prop} (hQ : Q (iI (bsu T t v 4 0 0))) : wp_X6_boughtAt (iI (v : Int)) (iI (tS T t : Int)) gains ranks purse Q := by
  unfold wp_X6_boughtAt
  refine ⟨5, ?_⟩
  have loop : ∀ r p, p + r = 4 → ∀ n : Int, Q (iI (bsu T t v r p n)) → wl_X6_boughtAt_5 (iI (v : Int)) (iI (tS T t : Int)) gains ranks purse (fun k => wx_X6_boughtAt_5 k Q) (r + 1) (iI n) (iI (p : Int)) := by
    intro r
    induction r with
    | zero =>
      intro p hp4 n hq
      show wb_X6_boughtAt_5 _ _ _ _ _ _ _ _ _
      unfold wb_X6_boughtAt_5
      exact br_le 4 (p : Int) rfl (tN (by omega)) (fun _ => hq) (fun q => absurd q (by omega))
    | succ r ih =>
      intro p hp4 n hq
      have e3 : iI (p : Int) + 1 = iI ((p + 1 : Nat) : Int) := iI_add _ 1
      show wb_X6_boughtAt_5 _ _ _ _ _ _ _ _ _
      unfold wb_X6_boughtAt_5
      rw [bsu] at hq
      refine br_le 4 (p : Int) rfl (tN (by omega)) (fun q => absurd q (by omega)) (fun _ => sp_X5_pO hT hp ?_)
      rw [tN (by omega)]
      refine bz_e (fun q => nm_r e3 (ih (p + 1) (by omega) n ?_)) (fun q => ⟨iI_in (by omega) (by omega) (by omega), ?_⟩)
      · rw [if_neg q] at hq; exact hq
      · rw [if_pos q] at hq
        have gq := ((pO_iff T _).mp q).2
        have gq2 := hT.2.1 p (by omega)
        rw [iI_clN (by omega), hp p (by omega)]
        refine sp_X3_countBeside hT ht hr hg (by simp at gq; omega) hv (nm_r (iI_add _ _) (nm_r e3 (ih (p + 1) (by omega) _ hq)))
  exact loop 4 0 (by omega) 0 hQ
/-- the price by which most are bought, and how many -/
def prs (B : Nat → Int) : Nat → Nat → Int → Int → Int × Int
  | 0, _, a, b => (a, b)
  | r + 1, v, a, b => if b < B v then prs B r (v + 1) (v : Int) (B v) else prs B r (v + 1) a b
def a_priced (T : Tn) (z w : Int) : Int := if 0 ≤ z ∧ z ≤ 5 then (if 0 ≤ w ∧ w ≤ 1 then (if w = 0 then (prs (fun v => bsu T z.toNat v 4 0 0) 99 1 1 (-1)).1 else (prs (fun v => bsu T z.toNat v 4 0 0) 99 1 1 (-1)).2) else -2) else -1
theorem sp_X6_priced {T : Tn} {less price stock worth purse : Nat → Int32} (h : TX T less price stock worth) (hp : pN purse T) {fw reach x y : Int32} {gains ranks : Nat → Int64} (hs : SHx T fw ranks) {Q : Int32 → Int32 → (Nat → Int64) → (Nat → Int64) → Int32 → Prop} (hQ : ∀ fw gains ranks reach, SHx T fw ranks → Q (iI (a_priced T x.toInt y.toInt)) fw gains ranks reach) : wp_X6_priced x y fw gains ranks reach less price purse stock worth Q := by
  unfold wp_X6_priced
  unfold a_priced at hQ
  refine sp_X6_isThing (bz_n (fun hx => ?_) (fun hx => ?_))
  · simp only [if_pos hx] at hQ
    refine sp_X6_within (bz_n (fun hy => ?_) (fun hy => ?_))
    · have hy : 0 ≤ y.toInt ∧ y.toInt ≤ 1 := hy
      simp only [if_pos hy] at hQ
      generalize hz : x.toInt.toNat = t at hQ
      have ht : t < 6 := by omega
      have ex : x = iI (t : Int) := by rw [← hz]; exact nat_of hx.1
      rw [ex, mw_e t ht]
      refine sp_X3_fill (m := mw t) h.1 h.2.1 h.2.2.1 h.2.2.2.1 h.2.2.2.2 (mw_lt t) hs (fun gains ranks reach hr => sp_X3_weigh h.1 h.2.2.2.1 h.2.2.2.2 ht (fun gains hg => ⟨100, ?_⟩))
      have hin : vp_in (iI (t : Int)) 6 := iI_in (by omega) (by omega) (by omega)
      have loop : ∀ r v, v + r = 100 → 0 < v → ∀ a b : Int, (-1 ≤ b ∧ b ≤ 36) → (∀ fw gains ranks reach, SHx T fw ranks → Q (iI (if y.toInt = 0 then (prs (fun v => bsu T t v 4 0 0) r v a b).1 else (prs (fun v => bsu T t v 4 0 0) r v a b).2)) fw gains ranks reach) → wl_X6_priced_60 (iI (t : Int)) gains ranks purse stock (fun k1 k2 => wx_X6_priced_60 y k1 k2 (iI ((mw t : Nat) : Int)) gains ranks reach Q) (r + 1) (iI a) (iI b) (iI (v : Int)) := by
        intro r
        induction r with
        | zero =>
          intro v hv h0 a b hb hq
          show wb_X6_priced_60 _ _ _ _ _ _ _ _ _ _
          unfold wb_X6_priced_60
          refine br_lt 99 (v : Int) rfl (tN (by omega)) (fun _ => ?_) (fun q => absurd q (by omega))
          show wx_X6_priced_60 _ _ _ _ _ _ _ _
          unfold wx_X6_priced_60
          have hS : SHx T (iI ((mw t : Nat) : Int)) ranks := Or.inr ⟨mw t, mw_lt t, rfl, hr⟩
          refine br_ne y.toInt 0 rfl rfl (fun g => ?_) (fun g => ?_)
          · simp only [if_neg g] at hq; exact hq _ _ _ _ hS
          · simp only [if_pos g] at hq; exact hq _ _ _ _ hS
        | succ r ih =>
          intro v hv h0 a b hb hq
          have e3 : iI (v : Int) + 1 = iI ((v + 1 : Nat) : Int) := iI_add _ 1
          have hB := bsu_b h.1 (t := t) (show v ≤ 99 by omega) 4 0 0 (Int.le_refl 0)
          show wb_X6_priced_60 _ _ _ _ _ _ _ _ _ _
          unfold wb_X6_priced_60
          refine br_lt 99 (v : Int) rfl (tN (by omega)) (fun q => absurd q (by omega)) (fun _ => ⟨hin, ?_⟩)
          rw [iI_clN (by omega), h.2.2.1 t ht]
          refine sp_X6_boughtAt h.1 hp ht hr hg ⟨h0, by omega⟩ ?_
          rw [prs] at hq
          refine br_le (bsu T t v 4 0 0) b (tI (by omega)) (tI (by omega)) (fun g => nm_r e3 (ih (v + 1) (by omega) (by omega) a b hb ?_)) (fun g => nm_r e3 (ih (v + 1) (by omega) (by omega) _ _ (by omega) ?_))
          · rw [if_neg (show ¬ (b < bsu T t v 4 0 0) by omega)] at hq; exact hq
          · rw [if_pos g] at hq; exact hq
      exact loop 99 1 (by omega) (by omega) 1 (-1) (by omega) hQ
    · have hy : ¬ (0 ≤ y.toInt ∧ y.toInt ≤ 1) := hy
      simp only [if_neg hy] at hQ
      exact hQ _ _ _ _ hs
  · simp only [if_neg hx] at hQ
    exact hQ _ _ _ _ hs
theorem prs_first {B : Nat → Int} (h : 0 ≤ B 1) : prs B 99 1 (-6) (-1) = prs B 99 1 1 (-1) := by
  have h2 : (-1 : Int) < B 1 := by omega
  show (if (-1 : Int) < B 1 then prs B 98 2 ((1 : Nat) : Int) (B 1) else prs B 98 2 (-6) (-1)) = (if (-1 : Int) < B 1 then prs B 98 2 ((1 : Nat) : Int) (B 1) else prs B 98 2 1 (-1))
  rw [if_pos h2, if_pos h2]
theorem sp_X7_boughtOf {T : Tn} {less price stock worth purse best many lies : Nat → Int32} (hT : Tok T) {t v : Nat} (ht : t < 6) (hv : v ≤ 99) (h : TX (Tpr T t v) less price stock worth) (hp : pN purse T) {Q : Int32 → (Nat → Int32) → (Nat → Int32) → (Nat → Int32) → Prop} (hQ : ∀ best lies many, Q (iI (bsu T t v 4 0 0)) best lies many) : wp_X7_boughtOf (iI (t : Int)) best less lies many price purse stock worth Q := by
  unfold wp_X7_boughtOf
  refine sp_X7_fillAll h.1 h.2.1 h.2.2.1 h.2.2.2.1 h.2.2.2.2 (fun best many hB => ⟨5, ?_⟩)
  have hb := hB 0 (by omega)
  have loop : ∀ r p, p + r = 4 → ∀ (n : Int) (lies : Nat → Int32), (∀ best lies many, Q (iI (bsu T t v r p n)) best lies many) → wl_X7_boughtOf_8 (iI (t : Int)) best less price purse worth (fun k1 k2 => wx_X7_boughtOf_8 k1 best k2 many Q) (r + 1) (iI n) (iI (p : Int)) lies := by
    intro r
    induction r with
    | zero =>
      intro p hp4 n lies hq
      show wb_X7_boughtOf_8 _ _ _ _ _ _ _ _ _ _ _
      unfold wb_X7_boughtOf_8
      exact br_le 4 (p : Int) rfl (tN (by omega)) (fun _ => hq _ _ _) (fun q => absurd q (by omega))
    | succ r ih =>
      intro p hp4 n lies hq
      have e3 : iI (p : Int) + 1 = iI ((p + 1 : Nat) : Int) := iI_add _ 1
      have hin : vp_in (iI (p : Int)) 4 := iI_in (by omega) (by omega) (by omega)
      show wb_X7_boughtOf_8 _ _ _ _ _ _ _ _ _ _ _
      unfold wb_X7_boughtOf_8
      rw [bsu] at hq
      refine br_le 4 (p : Int) rfl (tN (by omega)) (fun q => absurd q (by omega)) (fun _ => sp_X7_pO hT hp ?_)
      rw [tN (by omega)]
      refine bz_e (fun q => nm_r e3 (ih (p + 1) (by omega) n lies ?_)) (fun q => ⟨hin, ?_⟩)
      · rw [if_neg q] at hq; exact hq
      · rw [if_pos q] at hq
        have gq := ((pO_iff T _).mp q).2
        have gq2 := hT.2.1 p (by omega)
        have gq3 : 0 ≤ tQ T p ∧ tQ T p ≤ 999 := by simp at gq; omega
        rw [iI_clN (by omega), hp p (by omega)]
        refine sp_X7_cO h.1 hb ?_
        rw [tI (by omega)]
        refine bz_e (fun g => nm_r e3 (ih (p + 1) (by omega) n lies ?_)) (fun g => ⟨hin, ?_⟩)
        · have e0 : kO (Tpr T t v) (tQ T p) t = 0 := by
            unfold kO
            cases hk : rk (Tpr T t v) 63 (tQ T p).toNat with
            | none => rfl
            | some r => exact absurd ((cO_iff _ _).mpr ⟨gq3, by rw [hk]; rfl⟩) g
          rw [e0, Int.add_zero] at hq
          exact hq
        · have g2 := ((cO_iff _ _).mp g).2
          cases hk : rk (Tpr T t v) 63 (tQ T p).toNat with
          | none => rw [hk] at g2; cases g2
          | some r =>
            have e1 : iI (tQ T p) = iI (((tQ T p).toNat : Nat) : Int) := by congr 1; omega
            rw [e1]
            refine sp_X7_layBest h.1 h.2.1 h.2.2.2.1 h.2.2.2.2 hB (show (tQ T p).toNat < 1000 by omega) hk (fun lies hl => ⟨iI_in (by omega) (by omega) (by omega), ?_⟩)
            rw [iI_clN (by omega), hl t ht]
            refine nm_r (iI_add _ _) (nm_r e3 (ih (p + 1) (by omega) _ _ ?_))
            have e0 : kO (Tpr T t v) (tQ T p) t = rc_ r t := by unfold kO; rw [hk]
            rw [e0] at hq
            exact hq
  exact loop 4 0 (by omega) 0 lies hQ
theorem sp_X7_priced {T : Tn} {less price stock worth purse best many lies : Nat → Int32} (h : TX T less price stock worth) (hp : pN purse T) {x y : Int32} {Q : Int32 → (Nat → Int32) → (Nat → Int32) → (Nat → Int32) → (Nat → Int32) → Prop} (hQ : ∀ best lies many price, TX T less price stock worth → Q (iI (a_priced T x.toInt y.toInt)) best lies many price) : wp_X7_priced x y best less lies many price purse stock worth Q := by
  unfold wp_X7_priced
  unfold a_priced at hQ
  refine sp_X7_isThing (bz_n (fun hx => ?_) (fun hx => ?_))
  · simp only [if_pos hx] at hQ
    refine sp_X7_in (bz_n (fun hy => ?_) (fun hy => ?_))
    · have hy : 0 ≤ y.toInt ∧ y.toInt ≤ 1 := hy
      simp only [if_pos hy] at hQ
      generalize hz : x.toInt.toNat = t at hQ
      have ht : t < 6 := by omega
      have ex : x = iI (t : Int) := by rw [← hz]; exact nat_of hx.1
      rw [ex]
      have hin : vp_in (iI (t : Int)) 6 := iI_in (by omega) (by omega) (by omega)
      refine ⟨hin, nm_r (e' := iI (tP T t : Int)) (by rw [iI_clN (by omega)]; exact h.2.1 t ht) ⟨100, ?_⟩⟩
      rw [← prs_first (bsu_b h.1 (t := t) (show 1 ≤ 99 by omega) 4 0 0 (Int.le_refl 0)).1] at hQ
      have loop : ∀ r v, v + r = 100 → 0 < v → ∀ (a b : Int) (best lies many pr : Nat → Int32), (-1 ≤ b ∧ b ≤ 36) → (∀ i, i < 6 → i ≠ t → pr i = iI (tP T i : Int)) → (∀ best lies many price, TX T less price stock worth → Q (iI (if y.toInt = 0 then (prs (fun v => bsu T t v 4 0 0) r v a b).1 else (prs (fun v => bsu T t v 4 0 0) r v a b).2)) best lies many price) → wl_X7_priced_39 (iI (t : Int)) less purse stock worth (fun k1 k2 k3 k4 k5 k6 => wx_X7_priced_39 (iI (t : Int)) y (iI (tP T t : Int)) k1 k2 k3 k4 k5 k6 Q) (r + 1) (iI a) (iI b) (iI (v : Int)) best lies many pr := by
        intro r
        induction r with
        | zero =>
          intro v hv h0 a b best lies many pr hb hpr hq
          show wb_X7_priced_39 _ _ _ _ _ _ _ _ _ _ _ _ _ _
          unfold wb_X7_priced_39
          refine br_le 100 (v : Int) rfl (tN (by omega)) (fun _ => ?_) (fun q => absurd q (by omega))
          show wx_X7_priced_39 _ _ _ _ _ _ _ _ _ _
          unfold wx_X7_priced_39
          refine ⟨hin, nm_r rfl ?_⟩
          have hX : TX T less (upd pr (Int32.toNatClampNeg (iI (t : Int))) (iI (tP T t : Int))) stock worth := by
            refine ⟨h.1, ?_, h.2.2⟩
            intro j hj
            rw [iI_clN (by omega)]
            unfold upd
            by_cases e : j = t
            · rw [if_pos e, e]
            · rw [if_neg e]; exact hpr j hj e
          refine br_ne y.toInt 0 rfl rfl (fun g => ?_) (fun g => ?_)
          · simp only [if_neg g] at hq; exact hq _ _ _ _ hX
          · simp only [if_pos g] at hq; exact hq _ _ _ _ hX
        | succ r ih =>
          intro v hv h0 a b best lies many pr hb hpr hq
          have e3 : iI (v : Int) + 1 = iI ((v + 1 : Nat) : Int) := iI_add _ 1
          have hB := bsu_b h.1 (t := t) (show v ≤ 99 by omega) 4 0 0 (Int.le_refl 0)
          show wb_X7_priced_39 _ _ _ _ _ _ _ _ _ _ _ _ _ _
          unfold wb_X7_priced_39
          have hX : TX (Tpr T t v) less (upd pr (Int32.toNatClampNeg (iI (t : Int))) (iI (v : Int))) stock worth := by
            refine ⟨Tpr_ok h.1 (by omega), ?_, h.2.2⟩
            intro j hj
            rw [iI_clN (by omega)]
            show _ = iI ((upN (tP T) t v j : Nat) : Int)
            unfold upd upN
            by_cases e : j = t
            · rw [if_pos e, if_pos e]
            · rw [if_neg e, if_neg e]; exact hpr j hj e
          have hpr2 : ∀ i, i < 6 → i ≠ t → upd pr (Int32.toNatClampNeg (iI (t : Int))) (iI (v : Int)) i = iI (tP T i : Int) := by
            intro i hi hn
            rw [iI_clN (by omega)]
            unfold upd
            rw [if_neg hn]; exact hpr i hi hn
          refine br_le 100 (v : Int) rfl (tN (by omega)) (fun q => absurd q (by omega)) (fun _ => ⟨hin, nm_r rfl (sp_X7_boughtOf h.1 ht (by omega) hX hp (fun best lies many => ?_))⟩)
          rw [prs] at hq
          refine br_le (bsu T t v 4 0 0) b (tI (by omega)) (tI (by omega)) (fun g => ?_) (fun g => ?_)
          · rw [if_neg (show ¬ (b < bsu T t v 4 0 0) by omega)] at hq
            exact br_le (bsu T t v 4 0 0) b (tI (by omega)) (tI (by omega)) (fun g => nm_r e3 (ih (v + 1) (by omega) (by omega) a b _ _ _ _ hb hpr2 hq)) (fun g2 => absurd g2 (by omega))
          · rw [if_pos g] at hq
            exact br_le (bsu T t v 4 0 0) b (tI (by omega)) (tI (by omega)) (fun g2 => absurd g2 (by omega)) (fun g => nm_r e3 (ih (v + 1) (by omega) (by omega) _ _ _ _ _ _ (by omega) hpr2 hq))
      exact loop 99 1 (by omega) (by omega) (-6) (-1) best lies many price (by omega) (fun i hi _ => h.2.1 i hi) hQ
    · have hy : ¬ (0 ≤ y.toInt ∧ y.toInt ≤ 1) := hy
      simp only [if_neg hy] at hQ
      exact hQ _ _ _ _ h
  · simp only [if_neg hx] at hQ
    exact hQ _ _ _ _ h
