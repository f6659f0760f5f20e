/-! images -/
/-- a town's rows -/
def TW (T : Tn) (less price purse cnt how thg : Nat → Int32) (n : Int32) (stock worth : Nat → Int32) : Prop := TX T less price stock worth ∧ pN purse T ∧ SG T cnt how thg n
def a_image (z : Int) : Int := if 0 ≤ z ∧ z ≤ 1 then 1 else -2
def n_image (im : Nat → Option Tn) (T : Tn) (z : Int) : Nat → Option Tn := if 0 ≤ z ∧ z ≤ 1 then upN im z.toNat (some T) else im
def a_restore (im : Nat → Option Tn) (z : Int) : Int := if 0 ≤ z ∧ z ≤ 1 then (match im z.toNat with | none => -3 | some _ => 1) else -2
def n_restore (im : Nat → Option Tn) (T : Tn) (z : Int) : Tn := if 0 ≤ z ∧ z ≤ 1 then (match im z.toNat with | none => T | some T' => T') else T
theorem aN_cpy {f g : Nat → Int32} {F : Nat → Nat} {n : Nat} (h : aN f F n) : aN (va_cpy f g 0 0 n) F n := fun j hj => by rw [sb_cpy0 hj]; exact h j hj
theorem TW_cpy {T : Tn} {l1 p1 q1 c1 h1 t1 s1 w1 l2 p2 q2 c2 h2 t2 s2 w2 : Nat → Int32} {n : Int32} (h : TW T l1 p1 q1 c1 h1 t1 n s1 w1) : TW T (va_cpy l1 l2 0 0 6) (va_cpy p1 p2 0 0 6) (va_cpy q1 q2 0 0 4) (va_cpy c1 c2 0 0 6) (va_cpy h1 h2 0 0 6) (va_cpy t1 t2 0 0 6) n (va_cpy s1 s2 0 0 6) (va_cpy w1 w2 0 0 6) :=
  ⟨⟨h.1.1, aN_cpy h.1.2.1, aN_cpy h.1.2.2.1, aN_cpy h.1.2.2.2.1, aN_cpy h.1.2.2.2.2⟩, fun j hj => by rw [sb_cpy0 hj]; exact h.2.1 j hj, aN_cpy h.2.2.1, aN_cpy h.2.2.2.1, aN_cpy h.2.2.2.2.1, h.2.2.2.2.2⟩
theorem sp_X5_copyFrom {T : Tn} {l1 p1 q1 c1 h1 t1 s1 w1 l2 p2 q2 c2 h2 t2 s2 w2 : Nat → Int32} {n : Int32} (h : TW T l1 p1 q1 c1 h1 t1 n s1 w1) {Q : (Nat → Int32) → (Nat → Int32) → (Nat → Int32) → (Nat → Int32) → (Nat → Int32) → (Nat → Int32) → Int32 → (Nat → Int32) → (Nat → Int32) → Prop} (hQ : ∀ l p q c h t n s w, TW T l p q c h t n s w → Q l p q c h t n s w) : wp_X5_copyFrom l1 p1 q1 c1 h1 t1 n s1 w1 l2 p2 q2 c2 h2 t2 s2 w2 Q := by
  unfold wp_X5_copyFrom
  exact nm_r rfl (nm_r rfl (nm_r rfl (nm_r rfl (nm_r rfl (nm_r rfl (nm_r rfl (nm_r rfl (hQ _ _ _ _ _ _ _ _ _ (TW_cpy h)))))))))
/-- an image: not kept, or a town's rows -/
def IS (o : Option Tn) (k : Int32) (l p q c h t : Nat → Int32) (n : Int32) (s w : Nat → Int32) : Prop := (k = 0 ∧ o = none) ∨ (k = 1 ∧ ∃ T, o = some T ∧ TW T l p q c h t n s w)
theorem sp_X6_image {T : Tn} {im : Nat → Option Tn} {x : Int32} {l0 p0 q0 c0 h0 t0 s0 w0 l1 p1 q1 c1 h1 t1 s1 w1 l p q c h t s w kept : Nat → Int32} {n0 n1 n : Int32} (hT : TW T l p q c h t n s w) (hi0 : IS (im 0) (kept 0) l0 p0 q0 c0 h0 t0 n0 s0 w0) (hi1 : IS (im 1) (kept 1) l1 p1 q1 c1 h1 t1 n1 s1 w1)
    {Q : Int32 → (Nat → Int32) → (Nat → Int32) → (Nat → Int32) → (Nat → Int32) → (Nat → Int32) → (Nat → Int32) → Int32 → (Nat → Int32) → (Nat → Int32) → (Nat → Int32) → (Nat → Int32) → (Nat → Int32) → (Nat → Int32) → (Nat → Int32) → (Nat → Int32) → Int32 → (Nat → Int32) → (Nat → Int32) → (Nat → Int32) → Prop}
    (hQ : ∀ l0 p0 q0 c0 h0 t0 n0 s0 w0 l1 p1 q1 c1 h1 t1 n1 s1 w1 kept, IS (n_image im T x.toInt 0) (kept 0) l0 p0 q0 c0 h0 t0 n0 s0 w0 → IS (n_image im T x.toInt 1) (kept 1) l1 p1 q1 c1 h1 t1 n1 s1 w1 → Q (iI (a_image x.toInt)) l0 p0 q0 c0 h0 t0 n0 s0 w0 l1 p1 q1 c1 h1 t1 n1 s1 w1 kept) :
    wp_X6_image x l0 p0 q0 c0 h0 t0 n0 s0 w0 l1 p1 q1 c1 h1 t1 n1 s1 w1 kept l p q c h t n s w Q := by
  unfold wp_X6_image
  unfold a_image n_image at hQ
  refine sp_X6_isImage (bz_n (fun hx => ?_) (fun hx => ?_))
  · simp only [if_pos hx] at hQ
    have hin : vp_in x 2 := vp_in_iff.mpr ⟨hx.1, by omega⟩
    refine br_eq x.toInt 0 rfl rfl (fun g => ?_) (fun g => br_eq x.toInt 1 rfl rfl (fun g1 => ?_) (fun g1 => by omega))
    · rw [show x.toInt.toNat = 0 by omega] at hQ
      refine sp_X5_copyFrom hT (fun l p q c h t n s w hW => ⟨hin, nm_r rfl (hQ _ _ _ _ _ _ _ _ _ _ _ _ _ _ _ _ _ _ _ (Or.inr ⟨?_, T, rfl, hW⟩) ?_)⟩)
      · rw [show Int32.toNatClampNeg x = 0 from (show x.toInt.toNat = 0 by omega)]
        rfl
      · rw [show Int32.toNatClampNeg x = 0 from (show x.toInt.toNat = 0 by omega)]
        exact hi1
    · rw [show x.toInt.toNat = 1 by omega] at hQ
      refine sp_X5_copyFrom hT (fun l p q c h t n s w hW => ⟨hin, nm_r rfl (hQ _ _ _ _ _ _ _ _ _ _ _ _ _ _ _ _ _ _ _ ?_ (Or.inr ⟨?_, T, rfl, hW⟩))⟩)
      · rw [show Int32.toNatClampNeg x = 1 from (show x.toInt.toNat = 1 by omega)]
        exact hi0
      · rw [show Int32.toNatClampNeg x = 1 from (show x.toInt.toNat = 1 by omega)]
        rfl
  · simp only [if_neg hx] at hQ
    exact hQ _ _ _ _ _ _ _ _ _ _ _ _ _ _ _ _ _ _ _ hi0 hi1
theorem sp_X6_restore {T : Tn} {im : Nat → Option Tn} {x f1 f2 f3 co : Int32} {l0 p0 q0 c0 h0 t0 s0 w0 l1 p1 q1 c1 h1 t1 s1 w1 l p q c h t s w kept : Nat → Int32} {n0 n1 n : Int32} (hT : TW T l p q c h t n s w) (hi0 : IS (im 0) (kept 0) l0 p0 q0 c0 h0 t0 n0 s0 w0) (hi1 : IS (im 1) (kept 1) l1 p1 q1 c1 h1 t1 n1 s1 w1)
    {Q : Int32 → Int32 → Int32 → Int32 → Int32 → (Nat → Int32) → (Nat → Int32) → (Nat → Int32) → (Nat → Int32) → (Nat → Int32) → (Nat → Int32) → Int32 → (Nat → Int32) → (Nat → Int32) → Prop}
    (hQ : ∀ f1' f2' f3' co' l p q c h t n s w, TW (n_restore im T x.toInt) l p q c h t n s w → ((f1' = f1 ∧ f2' = f2 ∧ f3' = f3 ∧ co' = co ∧ n_restore im T x.toInt = T) ∨ (f1' = iI (-1) ∧ f2' = iI (-1) ∧ f3' = iI (-1) ∧ co' = 0)) → Q (iI (a_restore im x.toInt)) f1' f2' f3' co' l p q c h t n s w) :
    wp_X6_restore x f1 f2 l0 p0 q0 c0 h0 t0 n0 s0 w0 l1 p1 q1 c1 h1 t1 n1 s1 w1 kept f3 co l p q c h t n s w Q := by
  unfold wp_X6_restore
  unfold a_restore n_restore at hQ
  refine sp_X6_isImage (bz_n (fun hx => ?_) (fun hx => ?_))
  · simp only [if_pos hx] at hQ
    have hin : vp_in x 2 := vp_in_iff.mpr ⟨hx.1, by omega⟩
    refine ⟨hin, ?_⟩
    have e01 : x.toInt = 0 ∨ x.toInt = 1 := by omega
    rcases e01 with g | g
    · rw [show x.toInt.toNat = 0 by omega] at hQ
      rw [show Int32.toNatClampNeg x = 0 from (show x.toInt.toNat = 0 by omega)]
      rcases hi0 with ⟨k1, k2⟩ | ⟨k1, T', k2, k3⟩
      · rw [k2] at hQ
        rw [k1]
        exact ⟨fun q => absurd rfl q, fun _ => hQ _ _ _ _ _ _ _ _ _ _ _ _ _ hT (Or.inl ⟨rfl, rfl, rfl, rfl, rfl⟩)⟩
      · rw [k2] at hQ
        rw [k1]
        refine ⟨fun _ => br_eq x.toInt 0 rfl rfl (fun _ => ?_) (fun q => absurd g q), fun q => absurd (by decide) q⟩
        exact sp_X5_copyFrom k3 (fun l p q c h t n s w hW => hQ _ _ _ _ _ _ _ _ _ _ _ _ _ hW (Or.inr ⟨by decide, by decide, by decide, rfl⟩))
    · rw [show x.toInt.toNat = 1 by omega] at hQ
      rw [show Int32.toNatClampNeg x = 1 from (show x.toInt.toNat = 1 by omega)]
      rcases hi1 with ⟨k1, k2⟩ | ⟨k1, T', k2, k3⟩
      · rw [k2] at hQ
        rw [k1]
        exact ⟨fun q => absurd rfl q, fun _ => hQ _ _ _ _ _ _ _ _ _ _ _ _ _ hT (Or.inl ⟨rfl, rfl, rfl, rfl, rfl⟩)⟩
      · rw [k2] at hQ
        rw [k1]
        refine ⟨fun _ => br_eq x.toInt 0 rfl rfl (fun q => absurd q (by omega)) (fun _ => br_eq x.toInt 1 rfl rfl (fun _ => ?_) (fun q => absurd g q)), fun q => absurd (by decide) q⟩
        exact sp_X5_copyFrom k3 (fun l p q c h t n s w hW => hQ _ _ _ _ _ _ _ _ _ _ _ _ _ hW (Or.inr ⟨by decide, by decide, by decide, rfl⟩))
  · simp only [if_neg hx] at hQ
    exact hQ _ _ _ _ _ _ _ _ _ _ _ _ _ hT (Or.inl ⟨rfl, rfl, rfl, rfl, trivial⟩)
/-- what a kept image has at place o -/
def vO (T : Tn) (o : Nat) : Int := if o = 0 then (sN T : Int) else if o < 43 then (if (o - 1) % 7 = 0 then (tP T ((o - 1) / 7) : Int) else if (o - 1) % 7 = 1 then (tS T ((o - 1) / 7) : Int) else if (o - 1) % 7 = 2 then (tW T ((o - 1) / 7) : Int) else if (o - 1) % 7 = 3 then (tL T ((o - 1) / 7) : Int) else if (o - 1) % 7 = 4 then (sT T ((o - 1) / 7) : Int) else if (o - 1) % 7 = 5 then (sC T ((o - 1) / 7) : Int) else (sH T ((o - 1) / 7) : Int)) else tQ T (o - 43)
def KE (T : Tn) (b : Nat) (kept : Nat → Int32) : Prop := ∀ o, o < 47 → kept (b + o) = iI (vO T o)
/-- while the image is passed: o places are done -/
def KI (T : Tn) (b : Nat) (k0 : Nat → Int32) (w : Int32) (o : Nat) (kept : Nat → Int32) : Prop := (∀ i, i < o → kept (b + i) = iI (vO T i)) ∧ (w = 0 → KE T b kept) ∧ ∀ i, (i < b ∨ b + 47 ≤ i) → kept i = k0 i
theorem sp_X7_pass {T : Tn} {b o : Nat} {k0 kept : Nat → Int32} {w x at' : Int32} (hk : KI T b k0 w o kept) (ho : o < 47) (hb : b + 47 ≤ 120) (hat : at' = iI ((b + o : Nat) : Int)) (hw : w = 0 ∨ w = 1) (hx : w = 1 → x = iI (vO T o)) {Q : Int32 → (Nat → Int32) → Int32 → Prop} (hQ : ∀ kept', KI T b k0 w (o + 1) kept' → Q (iI (vO T o)) kept' (iI ((b + (o + 1) : Nat) : Int))) : wp_X7_pass x w kept at' Q := by
  unfold wp_X7_pass
  subst hat
  have hin : vp_in (iI ((b + o : Nat) : Int)) 120 := iI_in (by omega) (by omega) (by omega)
  have e3 : iI ((b + o : Nat) : Int) + (1 : Int32) = iI ((b + (o + 1) : Nat) : Int) := iI_add _ 1
  have stp : KI T b k0 w (o + 1) (upd kept (Int32.toNatClampNeg (iI ((b + o : Nat) : Int))) (iI (vO T o))) := by
    rw [iI_clN (by omega)]
    refine ⟨fun i hi => ?_, fun h0 i hi => ?_, fun i hi => ?_⟩
    · unfold upd
      by_cases e : i = o
      · rw [if_pos (by omega), e]
      · rw [if_neg (by omega)]; exact hk.1 i (by omega)
    · unfold upd
      by_cases e : i = o
      · rw [if_pos (by omega), e]
      · rw [if_neg (by omega)]; exact hk.2.1 h0 i hi
    · unfold upd
      rw [if_neg (by omega)]
      exact hk.2.2 i hi
  rcases hw with h0 | h1
  · refine ⟨fun _ => ⟨hin, nm_r (e' := iI (vO T o)) ?_ ⟨hin, nm_r rfl (nm_r e3 (hQ _ stp))⟩⟩, fun q => absurd h0 q⟩
    rw [iI_clN (by omega)]
    exact hk.2.1 h0 o ho
  · refine ⟨fun q => absurd (q.symm.trans h1) (by decide), fun _ => ⟨hin, nm_r rfl (nm_r e3 ?_)⟩⟩
    rw [hx h1]
    exact hQ _ stp
/-- a row of numbers, as far as it is passed, or all of it -/
def aP (f : Nat → Int32) (F : Nat → Nat) (w : Int32) (k : Nat) : Prop := ∀ j, j < 6 → (j < k ∨ w = 1) → f j = iI (F j : Int)
theorem aP_up {f : Nat → Int32} {F : Nat → Nat} {w : Int32} {k : Nat} (h : aP f F w k) {z : Int} (hz : z = (F k : Int)) : aP (upd f k (iI z)) F w (k + 1) := by
  intro j hj hw
  unfold upd
  by_cases e : j = k
  · rw [if_pos e, hz, e]
  · rw [if_neg e]
    refine h j hj ?_
    rcases hw with q | q
    · exact Or.inl (by omega)
    · exact Or.inr q
theorem vO_k (T : Tn) {k : Nat} (hk : k < 6) : vO T (1 + 7 * k) = (tP T k : Int) ∧ vO T (1 + 7 * k + 1) = (tS T k : Int) ∧ vO T (1 + 7 * k + 1 + 1) = (tW T k : Int) ∧ vO T (1 + 7 * k + 1 + 1 + 1) = (tL T k : Int) ∧ vO T (1 + 7 * k + 1 + 1 + 1 + 1) = (sT T k : Int) ∧ vO T (1 + 7 * k + 1 + 1 + 1 + 1 + 1) = (sC T k : Int) ∧ vO T (1 + 7 * k + 1 + 1 + 1 + 1 + 1 + 1) = (sH T k : Int) := by
  unfold vO
  refine ⟨?_, ?_, ?_, ?_, ?_, ?_, ?_⟩
  · rw [if_neg (by omega), if_pos (by omega), if_pos (by omega), show (1 + 7 * k - 1) / 7 = k by omega]
  · rw [if_neg (by omega), if_pos (by omega), if_neg (by omega), if_pos (by omega), show (1 + 7 * k + 1 - 1) / 7 = k by omega]
  · rw [if_neg (by omega), if_pos (by omega), if_neg (by omega), if_neg (by omega), if_pos (by omega), show (1 + 7 * k + 1 + 1 - 1) / 7 = k by omega]
  · rw [if_neg (by omega), if_pos (by omega), if_neg (by omega), if_neg (by omega), if_neg (by omega), if_pos (by omega), show (1 + 7 * k + 1 + 1 + 1 - 1) / 7 = k by omega]
  · rw [if_neg (by omega), if_pos (by omega), if_neg (by omega), if_neg (by omega), if_neg (by omega), if_neg (by omega), if_pos (by omega), show (1 + 7 * k + 1 + 1 + 1 + 1 - 1) / 7 = k by omega]
  · rw [if_neg (by omega), if_pos (by omega), if_neg (by omega), if_neg (by omega), if_neg (by omega), if_neg (by omega), if_neg (by omega), if_pos (by omega), show (1 + 7 * k + 1 + 1 + 1 + 1 + 1 - 1) / 7 = k by omega]
  · rw [if_neg (by omega), if_pos (by omega), if_neg (by omega), if_neg (by omega), if_neg (by omega), if_neg (by omega), if_neg (by omega), if_neg (by omega), show (1 + 7 * k + 1 + 1 + 1 + 1 + 1 + 1 - 1) / 7 = k by omega]
theorem sp_X7_passAll {T : Tn} {b : Nat} {kept : Nat → Int32} {w n : Int32} {l p q c h t s wo' : Nat → Int32} (hb : b + 47 ≤ 120) (hT : Tok T) (hw : w = 0 ∨ w = 1) (h1 : w = 1 → TW T l p q c h t n s wo') (h0 : w = 0 → KE T b kept) {Q : (Nat → Int32) → Int32 → (Nat → Int32) → (Nat → Int32) → (Nat → Int32) → (Nat → Int32) → (Nat → Int32) → (Nat → Int32) → Int32 → (Nat → Int32) → (Nat → Int32) → Prop}
    (hQ : ∀ kept' at' l p q c h t n s wo', KE T b kept' → (∀ i, (i < b ∨ b + 47 ≤ i) → kept' i = kept i) → TW T l p q c h t n s wo' → Q kept' at' l p q h c t n s wo') : wp_X7_passAll w kept (iI (b : Int)) l p q h c t n s wo' Q := by
  unfold wp_X7_passAll
  have kstart : KI T b kept w 0 kept := ⟨fun i hi => absurd hi (by omega), h0, fun i _ => rfl⟩
  refine sp_X7_pass kstart (by omega) hb (by rw [Nat.add_zero]) hw (fun g => (h1 g).2.2.2.2.2) (fun kept1 hk1 => ⟨7, ?_⟩)
  have step2 : ∀ kept2 at2 l p c h t s wo', at2 = iI ((b + 43 : Nat) : Int) → KI T b kept w 43 kept2 → aP l (tL T) w 6 → aP p (tP T) w 6 → aP c (sC T) w 6 → aP h (sH T) w 6 → aP t (sT T) w 6 → aP s (tS T) w 6 → aP wo' (tW T) w 6 → wx_X7_passAll_14 w kept2 at2 l p q h c t (iI (vO T 0)) s wo' Q := by
    intro kept2 at2 l p c h t s wo' hat hk2 al ap ac ah at' as aw
    subst hat
    unfold wx_X7_passAll_14
    refine ⟨5, ?_⟩
    have loop : ∀ (r k : Nat) (kept2 q : Nat → Int32), k + r = 4 → KI T b kept w (43 + k) kept2 → (∀ j, j < 4 → (j < k ∨ w = 1) → q j = iI (tQ T j)) → wl_X7_passAll_140 w (fun a b' d => wx_X7_passAll_140 a b' l p d h c t (iI (vO T 0)) s wo' Q) (r + 1) (iI (k : Int)) kept2 (iI ((b + (43 + k) : Nat) : Int)) q := by
      intro r
      induction r with
      | zero =>
        intro k kept2 q hk hki hq
        show wb_X7_passAll_140 _ _ _ _ _ _ _
        unfold wb_X7_passAll_140
        refine br_le 4 (k : Int) rfl (tN (by omega)) (fun _ => ?_) (fun g => absurd g (by omega))
        have e4 : k = 4 := by omega
        subst e4
        exact hQ _ _ _ _ _ _ _ _ _ _ _ (fun o ho => hki.1 o ho) hki.2.2 ⟨⟨hT, fun j hj => ap j hj (Or.inl hj), fun j hj => as j hj (Or.inl hj), fun j hj => aw j hj (Or.inl hj), fun j hj => al j hj (Or.inl hj)⟩, fun j hj => hq j hj (Or.inl hj), fun j hj => ac j hj (Or.inl hj), fun j hj => ah j hj (Or.inl hj), fun j hj => at' j hj (Or.inl hj), rfl⟩
      | succ r ih =>
        intro k kept2 q hk hki hq
        have hin : vp_in (iI (k : Int)) 4 := iI_in (by omega) (by omega) (by omega)
        have ev : vO T (43 + k) = tQ T k := by unfold vO; rw [if_neg (by omega), if_neg (by omega), show 43 + k - 43 = k by omega]
        show wb_X7_passAll_140 _ _ _ _ _ _ _
        unfold wb_X7_passAll_140
        rw [iI_clN (by omega)]
        refine br_le 4 (k : Int) rfl (tN (by omega)) (fun g => absurd g (by omega)) (fun _ => ⟨hin, sp_X7_pass hki (by omega) hb rfl hw (fun g => by rw [ev]; exact hq k (by omega) (Or.inr g)) (fun kept3 hk3 => ⟨hin, nm_r rfl (nm_r (e' := iI ((k + 1 : Nat) : Int)) (iI_add _ 1) (ih (k + 1) kept3 _ (by omega) hk3 ?_))⟩)⟩)
        intro j hj hw2
        unfold upd
        by_cases e : j = k
        · rw [if_pos e, ev, e]
        · rw [if_neg e]
          refine hq j hj ?_
          rcases hw2 with g | g
          · exact Or.inl (by omega)
          · exact Or.inr g
    exact loop 4 0 kept2 q (by omega) hk2 (fun j hj hw2 => by
      rcases hw2 with g | g
      · omega
      · exact (h1 g).2.1 j hj)
  have loop : ∀ (r k : Nat) (kept1 l p c h t s wo' : Nat → Int32), k + r = 6 → KI T b kept w (1 + 7 * k) kept1 → aP l (tL T) w k → aP p (tP T) w k → aP c (sC T) w k → aP h (sH T) w k → aP t (sT T) w k → aP s (tS T) w k → aP wo' (tW T) w k → wl_X7_passAll_14 w (fun a b' l p h c t s w' => wx_X7_passAll_14 w a b' l p q h c t (iI (vO T 0)) s w' Q) (r + 1) (iI (k : Int)) kept1 (iI ((b + (1 + 7 * k) : Nat) : Int)) l p h c t s wo' := by
    intro r
    induction r with
    | zero =>
      intro k kept1 l p c h t s wo' hk hki al ap ac ah at' as aw
      show wb_X7_passAll_14 _ _ _ _ _ _ _ _ _ _ _ _ _
      unfold wb_X7_passAll_14
      have e6 : k = 6 := by omega
      subst e6
      exact br_le 6 ((6 : Nat) : Int) rfl (tN (by omega)) (fun _ => step2 _ _ _ _ _ _ _ _ _ rfl hki al ap ac ah at' as aw) (fun g => absurd g (by omega))
    | succ r ih =>
      intro k kept1 l p c h t s wo' hk hki al ap ac ah at' as aw
      have hin : vp_in (iI (k : Int)) 6 := iI_in (by omega) (by omega) (by omega)
      have ev := vO_k T (show k < 6 by omega)
      show wb_X7_passAll_14 _ _ _ _ _ _ _ _ _ _ _ _ _
      unfold wb_X7_passAll_14
      rw [iI_clN (by omega)]
      refine br_le 6 (k : Int) rfl (tN (by omega)) (fun g => absurd g (by omega)) (fun _ => ⟨hin, sp_X7_pass hki (by omega) hb rfl hw (fun g => by rw [ev.1]; exact ap k (by omega) (Or.inr g)) (fun k2 hk2 => ⟨hin, nm_r rfl ⟨hin, ?_⟩⟩)⟩)
      refine sp_X7_pass hk2 (by omega) hb rfl hw (fun g => by rw [ev.2.1]; exact as k (by omega) (Or.inr g)) (fun k3 hk3 => ⟨hin, nm_r rfl ⟨hin, ?_⟩⟩)
      refine sp_X7_pass hk3 (by omega) hb rfl hw (fun g => by rw [ev.2.2.1]; exact aw k (by omega) (Or.inr g)) (fun k4 hk4 => ⟨hin, nm_r rfl ⟨hin, ?_⟩⟩)
      refine sp_X7_pass hk4 (by omega) hb rfl hw (fun g => by rw [ev.2.2.2.1]; exact al k (by omega) (Or.inr g)) (fun k5 hk5 => ⟨hin, nm_r rfl ⟨hin, ?_⟩⟩)
      refine sp_X7_pass hk5 (by omega) hb rfl hw (fun g => by rw [ev.2.2.2.2.1]; exact at' k (by omega) (Or.inr g)) (fun k6 hk6 => ⟨hin, nm_r rfl ⟨hin, ?_⟩⟩)
      refine sp_X7_pass hk6 (by omega) hb rfl hw (fun g => by rw [ev.2.2.2.2.2.1]; exact ac k (by omega) (Or.inr g)) (fun k7 hk7 => ⟨hin, nm_r rfl ⟨hin, ?_⟩⟩)
      refine sp_X7_pass hk7 (by omega) hb rfl hw (fun g => by rw [ev.2.2.2.2.2.2]; exact ah k (by omega) (Or.inr g)) (fun k8 hk8 => ⟨hin, nm_r rfl (nm_r (e' := iI ((k + 1 : Nat) : Int)) (iI_add _ 1) ?_)⟩)
      have e7 : 1 + 7 * k + 1 + 1 + 1 + 1 + 1 + 1 + 1 = 1 + 7 * (k + 1) := by omega
      have hI := ih (k + 1) k8 _ _ _ _ _ _ _ (by omega) (by rw [← e7]; exact hk8) (aP_up al ev.2.2.2.1) (aP_up ap ev.1) (aP_up ac ev.2.2.2.2.2.1) (aP_up ah ev.2.2.2.2.2.2) (aP_up at' ev.2.2.2.2.1) (aP_up as ev.2.1) (aP_up aw ev.2.2.1)
      rw [← e7] at hI
      exact hI
  exact loop 6 0 kept1 l p c h t s wo' (by omega) hk1 (fun j hj hw2 => by rcases hw2 with g | g; omega; exact (h1 g).1.2.2.2.2 j hj) (fun j hj hw2 => by rcases hw2 with g | g; omega; exact (h1 g).1.2.1 j hj) (fun j hj hw2 => by rcases hw2 with g | g; omega; exact (h1 g).2.2.1 j hj) (fun j hj hw2 => by rcases hw2 with g | g; omega; exact (h1 g).2.2.2.1 j hj) (fun j hj hw2 => by rcases hw2 with g | g; omega; exact (h1 g).2.2.2.2.1 j hj) (fun j hj hw2 => by rcases hw2 with g | g; omega; exact (h1 g).1.2.2.1 j hj) (fun j hj hw2 => by rcases hw2 with g | g; omega; exact (h1 g).1.2.2.2.1 j hj)
/-- an image of the reference's: not kept, or a town's numbers -/
def KS (o : Option Tn) (k : Int32) (b : Nat) (kept : Nat → Int32) : Prop := (k = 0 ∧ o = none) ∨ (k = 1 ∧ ∃ T, o = some T ∧ Tok T ∧ KE T b kept)
theorem KS_keep {o : Option Tn} {k : Int32} {b b' : Nat} {kept kept' : Nat → Int32} (h : KS o k b kept) (hb : b + 47 ≤ b' ∨ b' + 47 ≤ b) (hk : ∀ i, (i < b' ∨ b' + 47 ≤ i) → kept' i = kept i) : KS o k b kept' := by
  rcases h with h | ⟨h1, T, h2, h3, h4⟩
  · exact Or.inl h
  · exact Or.inr ⟨h1, T, h2, h3, fun i hi => by rw [hk (b + i) (by omega)]; exact h4 i hi⟩
theorem sp_X7_image {T : Tn} {im : Nat → Option Tn} {x w at' n : Int32} {isk kept l p q c h t s wo' : Nat → Int32} (hT : TW T l p q c h t n s wo') (h0 : KS (im 0) (isk 0) 0 kept) (h1 : KS (im 1) (isk 1) 60 kept) {Q : Int32 → (Nat → Int32) → Int32 → (Nat → Int32) → Int32 → (Nat → Int32) → (Nat → Int32) → (Nat → Int32) → (Nat → Int32) → (Nat → Int32) → (Nat → Int32) → Int32 → (Nat → Int32) → (Nat → Int32) → Prop}
    (hQ : ∀ isk w kept at' l p q c h t n s wo', KS (n_image im T x.toInt 0) (isk 0) 0 kept → KS (n_image im T x.toInt 1) (isk 1) 60 kept → TW T l p q c h t n s wo' → Q (iI (a_image x.toInt)) isk w kept at' l p q h c t n s wo') : wp_X7_image x isk w kept at' l p q h c t n s wo' Q := by
  unfold wp_X7_image
  unfold a_image n_image at hQ
  refine sp_X7_in (bz_n (fun hx => ?_) (fun hx => ?_))
  · have hx : 0 ≤ x.toInt ∧ x.toInt ≤ 1 := hx
    simp only [if_pos hx] at hQ
    have hin : vp_in x 2 := vp_in_iff.mpr ⟨hx.1, by omega⟩
    have e60 : (60 : Int32) * x = iI ((60 * x.toInt.toNat : Nat) : Int) := by
      rw [nat_of hx.1, show (60 : Int32) * iI ((x.toInt.toNat : Nat) : Int) = iI (60 * ((x.toInt.toNat : Nat) : Int)) from iI_mul 60 _, ← nat_of hx.1]
      congr 1 <;> omega
    refine nm_r e60 (sp_X7_passAll (by omega) hT.1.1 (Or.inr rfl) (fun _ => hT) (fun g => absurd g (by decide)) (fun kept' at' l p q c h t n s wo' hk hk2 hW => ⟨hin, nm_r rfl (hQ _ _ _ _ _ _ _ _ _ _ _ _ _ ?_ ?_ hW)⟩))
    · rw [show Int32.toNatClampNeg x = x.toInt.toNat from rfl]
      unfold upd upN
      by_cases e : x.toInt.toNat = 0
      · rw [if_pos (by omega), if_pos (by omega)]
        rw [e] at hk
        exact Or.inr ⟨rfl, T, rfl, hT.1.1, hk⟩
      · rw [if_neg (by omega), if_neg (by omega)]
        exact KS_keep h0 (by omega) hk2
    · rw [show Int32.toNatClampNeg x = x.toInt.toNat from rfl]
      unfold upd upN
      by_cases e : x.toInt.toNat = 1
      · rw [if_pos (by omega), if_pos (by omega)]
        rw [e] at hk
        exact Or.inr ⟨rfl, T, rfl, hT.1.1, hk⟩
      · rw [if_neg (by omega), if_neg (by omega)]
        exact KS_keep h1 (by omega) hk2
  · have hx : ¬ (0 ≤ x.toInt ∧ x.toInt ≤ 1) := hx
    simp only [if_neg hx] at hQ
    exact hQ _ _ _ _ _ _ _ _ _ _ _ _ _ h0 h1 hT
theorem sp_X7_restore {T : Tn} {im : Nat → Option Tn} {x w at' n : Int32} {isk kept l p q c h t s wo' : Nat → Int32} (hT : TW T l p q c h t n s wo') (h0 : KS (im 0) (isk 0) 0 kept) (h1 : KS (im 1) (isk 1) 60 kept) {Q : Int32 → Int32 → (Nat → Int32) → Int32 → (Nat → Int32) → (Nat → Int32) → (Nat → Int32) → (Nat → Int32) → (Nat → Int32) → (Nat → Int32) → Int32 → (Nat → Int32) → (Nat → Int32) → Prop}
    (hQ : ∀ w kept at' l p q c h t n s wo', KS (im 0) (isk 0) 0 kept → KS (im 1) (isk 1) 60 kept → TW (n_restore im T x.toInt) l p q c h t n s wo' → Q (iI (a_restore im x.toInt)) w kept at' l p q h c t n s wo') : wp_X7_restore x isk w kept at' l p q h c t n s wo' Q := by
  unfold wp_X7_restore
  unfold a_restore n_restore at hQ
  refine sp_X7_in (bz_n (fun hx => ?_) (fun hx => ?_))
  · have hx : 0 ≤ x.toInt ∧ x.toInt ≤ 1 := hx
    simp only [if_pos hx] at hQ
    have hin : vp_in x 2 := vp_in_iff.mpr ⟨hx.1, by omega⟩
    have e60 : (60 : Int32) * x = iI ((60 * x.toInt.toNat : Nat) : Int) := by
      rw [nat_of hx.1, show (60 : Int32) * iI ((x.toInt.toNat : Nat) : Int) = iI (60 * ((x.toInt.toNat : Nat) : Int)) from iI_mul 60 _, ← nat_of hx.1]
      congr 1 <;> omega
    refine ⟨hin, ?_⟩
    rw [show Int32.toNatClampNeg x = x.toInt.toNat from rfl]
    have hn : KS (im x.toInt.toNat) (isk x.toInt.toNat) (60 * x.toInt.toNat) kept := by
      rcases (show x.toInt.toNat = 0 ∨ x.toInt.toNat = 1 by omega) with e | e
      · rw [e]; exact h0
      · rw [e]; exact h1
    rcases hn with ⟨k1, k2⟩ | ⟨k1, T', k2, k3, k4⟩
    · rw [k2] at hQ
      rw [k1]
      exact ⟨fun g => absurd rfl g, fun _ => hQ _ _ _ _ _ _ _ _ _ _ _ _ h0 h1 hT⟩
    · rw [k2] at hQ
      rw [k1]
      refine ⟨fun _ => nm_r e60 (sp_X7_passAll (by omega) k3 (Or.inl rfl) (fun g => absurd g (by decide)) (fun _ => k4) (fun kept' at' l p q c h t n s wo' hk hk2 hW => hQ _ _ _ _ _ _ _ _ _ _ _ _ ?_ ?_ hW)), fun g => absurd (by decide) g⟩
      · by_cases e : x.toInt.toNat = 0
        · rw [e] at k1 k2 hk
          exact Or.inr ⟨k1, T', k2, k3, hk⟩
        · exact KS_keep h0 (by omega) hk2
      · by_cases e : x.toInt.toNat = 1
        · rw [e] at k1 k2 hk
          exact Or.inr ⟨k1, T', k2, k3, hk⟩
        · exact KS_keep h1 (by omega) hk2
  · have hx : ¬ (0 ≤ x.toInt ∧ x.toInt ≤ 1) := hx
    simp only [if_neg hx] at hQ
    exact hQ _ _ _ _ _ _ _ _ _ _ _ _ h0 h1 hT
