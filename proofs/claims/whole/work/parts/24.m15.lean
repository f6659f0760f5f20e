/-! row -/
def cM (T : Tn) (m : Nat) (z : Int) : Bool := decide (0 ≤ z ∧ z ≤ 999) && (rk T m z.toNat).isSome
theorem cM_iff (T : Tn) (m : Nat) (z : Int) : cM T m z = true ↔ (0 ≤ z ∧ z ≤ 999) ∧ (rk T m z.toNat).isSome = true := by
  unfold cM
  rw [Bool.and_eq_true, decide_eq_true_iff]
theorem sp_X3_cM {T : Tn} (hT : Tok T) {m : Nat} {ranks : Nat → Int64} (hr : RKs T m ranks) {x : Int32} {Q : Int32 → Prop} (hQ : Q (bz (cM T m x.toInt = true))) : wp_X3_comesOut x ranks Q := by
  refine sp_X3_comesOut hT hr ?_
  by_cases h : cM T m x.toInt = true
  · rw [bz_t h] at hQ; rw [bz_t ((cM_iff T m _).mp h)]; exact hQ
  · rw [bz_f h] at hQ; rw [bz_f (fun q => h ((cM_iff T m _).mpr q))]; exact hQ
def rwf (T : Tn) (z : Int) : Nat → Int → Int → Int
  | 0, _, n => n
  | r + 1, p, n => rwf T z r (p + 1) (if cM T 7 p = true ∧ cM T 56 (z - p) = true then n + 1 else n)
def a_row (T : Tn) (z : Int) : Int := if 0 ≤ z ∧ z ≤ 999 then rwf T z (z.toNat + 1) 0 0 else -2
theorem sp_X6_row {T : Tn} {less price stock worth : Nat → Int32} (h : TX T less price stock worth) {f1 r1 f2 r2 x : Int32} {g1 k1 g2 k2 : Nat → Int64} (hs1 : SHx T f1 k1) (hs2 : SHx T f2 k2) {Q : Int32 → Int32 → (Nat → Int64) → (Nat → Int64) → Int32 → Int32 → (Nat → Int64) → (Nat → Int64) → Int32 → Prop} (hQ : ∀ f1 g1 k1 r1 f2 g2 k2 r2, SHx T f1 k1 → SHx T f2 k2 → Q (iI (a_row T x.toInt)) f1 g1 k1 r1 f2 g2 k2 r2) : wp_X6_row x f1 g1 k1 r1 f2 g2 k2 r2 less price stock worth Q := by
  unfold wp_X6_row
  unfold a_row at hQ
  refine sp_X6_isSum (bz_n (fun hx => ?_) (fun hx => ?_))
  · rw [if_pos hx] at hQ
    refine sp_X3_fill (m := 7) h.1 h.2.1 h.2.2.1 h.2.2.2.1 h.2.2.2.2 (by omega) hs1 (fun g1 k1 r1 h1 => sp_X3_fill (m := 56) h.1 h.2.1 h.2.2.1 h.2.2.2.1 h.2.2.2.2 (by omega) hs2 (fun g2 k2 r2 h2 => ⟨x.toInt.toNat + 2, ?_⟩))
    have loop : ∀ (r : Nat) (p n : Int), p + (r : Int) = x.toInt + 1 → 0 ≤ p → (0 ≤ n ∧ n ≤ p) → (∀ f1 g1 k1 r1 f2 g2 k2 r2, SHx T f1 k1 → SHx T f2 k2 → Q (iI (rwf T x.toInt r p n)) f1 g1 k1 r1 f2 g2 k2 r2) → wl_X6_row_40 x k1 k2 (fun a => wx_X6_row_40 a (iI ((7 : Nat) : Int)) g1 k1 r1 (iI ((56 : Nat) : Int)) g2 k2 r2 Q) (r + 1) (iI n) (iI p) := by
      intro r
      induction r with
      | zero =>
        intro p n hp h0 hn hq
        show wb_X6_row_40 _ _ _ _ _ _ _
        unfold wb_X6_row_40
        refine br_lt x.toInt p rfl (tI (by omega)) (fun _ => ?_) (fun q => absurd q (by omega))
        exact hq _ _ _ _ _ _ _ _ (Or.inr ⟨7, by omega, rfl, h1⟩) (Or.inr ⟨56, by omega, rfl, h2⟩)
      | succ r ih =>
        intro p n hp h0 hn hq
        have e3 : iI p + 1 = iI (p + 1) := iI_add _ 1
        show wb_X6_row_40 _ _ _ _ _ _ _
        unfold wb_X6_row_40
        rw [rwf] at hq
        refine br_lt x.toInt p rfl (tI (by omega)) (fun q => absurd q (by omega)) (fun _ => sp_X3_cM h.1 h1 ?_)
        rw [tI (by omega)]
        refine bz_e (fun q => nm_r e3 (ih (p + 1) n (by omega) (by omega) (by omega) ?_)) (fun q => sp_X3_cM h.1 h2 ?_)
        · rw [if_neg (fun g => q g.1)] at hq; exact hq
        · have e4 : (x - iI p).toInt = x.toInt - p := by rw [Jvm.Kit.i32_sub (by rw [tI (by omega)]; omega) (by rw [tI (by omega)]; omega), tI (by omega)]
          rw [e4]
          refine bz_e (fun q2 => nm_r e3 (ih (p + 1) n (by omega) (by omega) (by omega) ?_)) (fun q2 => nm_r (iI_add _ 1) (nm_r e3 (ih (p + 1) (n + 1) (by omega) (by omega) (by omega) ?_)))
          · rw [if_neg (fun g => q2 g.2)] at hq; exact hq
          · rw [if_pos ⟨q, q2⟩] at hq; exact hq
    exact loop (x.toInt.toNat + 1) 0 0 (by omega) (by omega) (by omega) hQ
  · rw [if_neg hx] at hQ; exact hQ _ _ _ _ _ _ _ _ hs1 hs2
theorem vS_56 (T : Tn) : vS T 56 0 = vS T 56 3 := by
  have hb : ∀ i : Nat, i < 3 → Nat.testBit 56 i = false := by decide
  rw [vS_step T 56 0 (by omega), vo_un T 56 0 (un_sold (hb 0 (by omega))), vS_step T 56 1 (by omega), vo_un T 56 1 (un_sold (hb 1 (by omega))), vS_step T 56 2 (by omega), vo_un T 56 2 (un_sold (hb 2 (by omega)))]
theorem em_neg {T : Tn} (hT : Tok T) {m s : Nat} {A B : Prop} (hA : ¬ (rk T m s).isSome = true → A) (hB : (rk T m s).isSome = true → B) : (em (vS T m 0 s) < 0 → A) ∧ (¬ (em (vS T m 0 s) < 0) → B) := by
  rw [em_vS hT]
  cases hk : rk T m s with
  | none => exact br_lt (-6) 0 (tI (z := -6) (by omega)) rfl (fun _ => hA (by rw [hk]; decide)) (fun q => absurd q (by omega))
  | some r =>
    have hr := rw_ge hT hk
    exact br_lt (rw_ r) 0 (tI (z := rw_ r) (by omega)) rfl (fun q => absurd q (by omega)) (fun _ => hB (by rw [hk]; rfl))
theorem nar0 : vp_nar .boolean 0 = 0 := rfl
theorem nar1 : vp_nar .boolean 1 = 1 := rfl
theorem sp_X7_row {T : Tn} {less price stock worth best many fo : Nat → Int32} (h : TX T less price stock worth) {x : Int32} {Q : Int32 → (Nat → Int32) → (Nat → Int32) → (Nat → Int32) → Prop} (hQ : ∀ best fo many, Q (iI (a_row T x.toInt)) best fo many) : wp_X7_row x best fo less many price stock worth Q := by
  unfold wp_X7_row
  unfold a_row at hQ
  refine sp_X7_isSum (bz_n (fun hx => ?_) (fun hx => ?_))
  · rw [if_pos hx] at hQ
    refine sp_X7_fill (a := 0) (b := 2) (m := 7) h.1 h.2.1 h.2.2.1 h.2.2.2.1 h.2.2.2.2 (by omega) (by omega) bits7 (fun best many hB => ⟨1001, ?_⟩)
    have hb := hB 0 (by omega) (by omega)
    have loop1 : ∀ (K : (Nat → Int32) → Prop), (∀ fo : Nat → Int32, (∀ p, p < 1000 → fo p = bz ((rk T 7 p).isSome = true)) → K fo) → ∀ (r p : Nat) (fo : Nat → Int32), p + r = 1000 → (∀ q, q < p → fo q = bz ((rk T 7 q).isSome = true)) → wl_X7_row_18 best K (r + 1) (iI (p : Int)) fo := by
      intro K hK r
      induction r with
      | zero =>
        intro p fo hp hf
        show wb_X7_row_18 _ _ _ _ _
        unfold wb_X7_row_18
        exact br_le 1000 (p : Int) rfl (tN (by omega)) (fun _ => hK fo (fun q hq => hf q (by omega))) (fun q => absurd q (by omega))
      | succ r ih =>
        intro p fo hp hf
        have e3 : iI (p : Int) + 1 = iI ((p + 1 : Nat) : Int) := iI_add _ 1
        have ef : best p = em (vS T 7 0 p) := by
          have := (hb p (by omega)).1
          rw [Nat.mul_zero, Nat.zero_add] at this
          exact this
        have hin : vp_in (iI (p : Int)) 1000 := iI_in (by omega) (by omega) (by omega)
        show wb_X7_row_18 _ _ _ _ _
        unfold wb_X7_row_18
        rw [iI_clN (by omega), ef]
        refine br_le 1000 (p : Int) rfl (tN (by omega)) (fun q => absurd q (by omega)) (fun _ => ⟨iI_in (by omega) (by omega) (by omega), em_neg h.1 (fun g => ⟨hin, nm_r rfl (nm_r e3 (ih (p + 1) _ (by omega) ?_))⟩) (fun g => ⟨hin, nm_r rfl (nm_r e3 (ih (p + 1) _ (by omega) ?_))⟩)⟩)
        · intro q hq
          unfold upd
          by_cases hqp : q = p
          · rw [if_pos hqp, hqp, bz_f g, nar0]
          · rw [if_neg hqp]; exact hf q (by omega)
        · intro q hq
          unfold upd
          by_cases hqp : q = p
          · rw [if_pos hqp, hqp, bz_t g, nar1]
          · rw [if_neg hqp]; exact hf q (by omega)
    refine loop1 _ ?_ 1000 0 fo (by omega) (fun q hq => absurd hq (by omega))
    intro fo hfo
    show wx_X7_row_18 _ _ _ _ _ _ _ _ _
    unfold wx_X7_row_18
    refine sp_X7_fill (a := 3) (b := 5) (m := 56) h.1 h.2.1 h.2.2.1 h.2.2.2.1 h.2.2.2.2 (by omega) (by omega) bits56 (fun best many hB => ⟨x.toInt.toNat + 2, ?_⟩)
    have hb3 := hB 3 (by omega) (by omega)
    have loop : ∀ (r : Nat) (p n : Int), p + (r : Int) = x.toInt + 1 → 0 ≤ p → (0 ≤ n ∧ n ≤ p) → (∀ best fo many, Q (iI (rwf T x.toInt r p n)) best fo many) → wl_X7_row_61 x best fo (fun a => wx_X7_row_61 a best fo many Q) (r + 1) (iI n) (iI p) := by
      intro r
      induction r with
      | zero =>
        intro p n hp h0 hn hq
        show wb_X7_row_61 _ _ _ _ _ _ _
        unfold wb_X7_row_61
        exact br_lt x.toInt p rfl (tI (by omega)) (fun _ => hq _ _ _) (fun q => absurd q (by omega))
      | succ r ih =>
        intro p n hp h0 hn hq
        have e3 : iI p + 1 = iI (p + 1) := iI_add _ 1
        have en : iI n + (0 : Int32) = iI n := (iI_add _ 0).trans (by rw [Int.add_zero])
        show wb_X7_row_61 _ _ _ _ _ _ _
        unfold wb_X7_row_61
        rw [rwf] at hq
        have ec : (3000 : Int32) + x - iI p = iI (3000 + (x.toInt - p)) := by
          rw [iI_of x, show (3000 : Int32) + iI x.toInt = iI (3000 + x.toInt) from iI_add 3000 _, iI_sub, ← iI_of x]
          congr 1; omega
        rw [ec, iI_cl (by omega) (by omega), iI_cl (by omega) (by omega), hfo p.toNat (by omega), show (3000 + (x.toInt - p)).toNat = 1000 * 3 + (x.toInt - p).toNat by omega, (hb3 (x.toInt - p).toNat (by omega)).1, ← vS_56]
        have c7 : cM T 7 p = true ↔ (rk T 7 p.toNat).isSome = true := by rw [cM_iff]; exact ⟨fun g => g.2, fun g => ⟨by omega, g⟩⟩
        have c56 : cM T 56 (x.toInt - p) = true ↔ (rk T 56 (x.toInt - p).toNat).isSome = true := by rw [cM_iff]; exact ⟨fun g => g.2, fun g => ⟨by omega, g⟩⟩
        refine br_lt x.toInt p rfl (tI (by omega)) (fun q => absurd q (by omega)) (fun _ => ⟨iI_in (by omega) (by omega) (by omega), bz_e (fun q => nm_r en (nm_r e3 (ih (p + 1) n (by omega) (by omega) (by omega) ?_))) (fun q => ⟨iI_in (by omega) (by omega) (by omega), em_neg h.1 (fun g => nm_r en (nm_r e3 (ih (p + 1) n (by omega) (by omega) (by omega) ?_))) (fun g => nm_r (iI_add _ 1) (nm_r e3 (ih (p + 1) (n + 1) (by omega) (by omega) (by omega) ?_)))⟩)⟩)
        · rw [if_neg (fun g => q (c7.mp g.1))] at hq; exact hq
        · rw [if_neg (fun g2 => g (c56.mp g2.2))] at hq; exact hq
        · rw [if_pos ⟨c7.mpr q, c56.mpr g⟩] at hq; exact hq
    exact loop (x.toInt.toNat + 1) 0 0 (by omega) (by omega) (by omega) hQ
  · rw [if_neg hx] at hQ; exact hQ _ _ _
/-! thing, purse, seen, forget, say, wipe -/
def upN {α : Type} (F : Nat → α) (t : Nat) (v : α) : Nat → α := fun j => if j = t then v else F j
theorem aN_up {f : Nat → Int32} {F : Nat → Nat} {n t v : Nat} {x : Int32} (h : aN f F n) (hx : x = iI (v : Int)) : aN (upd f t x) (upN F t v) n := by
  intro j hj
  unfold upd upN
  by_cases e : j = t
  · rw [if_pos e, if_pos e]; exact hx
  · rw [if_neg e, if_neg e]; exact h j hj
def Tset (T : Tn) (t p s w l : Nat) : Tn := (upN (tP T) t p, upN (tS T) t s, upN (tW T) t w, upN (tL T) t l, tQ T, sT T, sC T, sH T, sN T)
def a_thing (a p s w l : Int) : Int := if 0 ≤ a ∧ a ≤ 5 then (if (0 ≤ p ∧ p ≤ 99) ∧ (0 ≤ s ∧ s ≤ 9) ∧ (0 ≤ w ∧ w ≤ 99) ∧ 0 ≤ l ∧ l ≤ 99 then 1 else -2) else -1
def n_thing (T : Tn) (a p s w l : Int) : Tn := if (0 ≤ a ∧ a ≤ 5) ∧ (0 ≤ p ∧ p ≤ 99) ∧ (0 ≤ s ∧ s ≤ 9) ∧ (0 ≤ w ∧ w ≤ 99) ∧ 0 ≤ l ∧ l ≤ 99 then Tset T a.toNat p.toNat s.toNat w.toNat l.toNat else T
theorem Tset_ok {T : Tn} (hT : Tok T) {t p s w l : Nat} (hp : p ≤ 99) (hs : s ≤ 9) (hw : w ≤ 99) (hl : l ≤ 99) : Tok (Tset T t p s w l) := by
  refine ⟨fun j hj => ?_, hT.2.1, hT.2.2.1, hT.2.2.2⟩
  have h := hT.1 j hj
  show upN (tP T) t p j ≤ 99 ∧ upN (tS T) t s j ≤ 9 ∧ upN (tW T) t w j ≤ 99 ∧ upN (tL T) t l j ≤ 99
  unfold upN
  by_cases e : j = t
  · simp only [if_pos e]; exact ⟨hp, hs, hw, hl⟩
  · simp only [if_neg e]; exact h
theorem Tset_TX {T : Tn} {less price stock worth : Nat → Int32} (h : TX T less price stock worth) {x1 x2 x3 x4 x5 : Int32} (h1 : 0 ≤ x1.toInt ∧ x1.toInt ≤ 5) (h2 : 0 ≤ x2.toInt ∧ x2.toInt ≤ 99) (h3 : 0 ≤ x3.toInt ∧ x3.toInt ≤ 9) (h4 : 0 ≤ x4.toInt ∧ x4.toInt ≤ 99) (h5 : 0 ≤ x5.toInt ∧ x5.toInt ≤ 99) : TX (Tset T x1.toInt.toNat x2.toInt.toNat x3.toInt.toNat x4.toInt.toNat x5.toInt.toNat) (upd less (Int32.toNatClampNeg x1) x5) (upd price (Int32.toNatClampNeg x1) x2) (upd stock (Int32.toNatClampNeg x1) x3) (upd worth (Int32.toNatClampNeg x1) x4) :=
  ⟨Tset_ok h.1 (by omega) (by omega) (by omega) (by omega), aN_up h.2.1 (nat_of h2.1), aN_up h.2.2.1 (nat_of h3.1), aN_up h.2.2.2.1 (nat_of h4.1), aN_up h.2.2.2.2 (nat_of h5.1)⟩
theorem sp_X6_thing {T : Tn} {less price stock worth : Nat → Int32} (h : TX T less price stock worth) {x1 x2 x3 x4 x5 f1 f2 f3 co : Int32} {Q : Int32 → Int32 → Int32 → Int32 → Int32 → (Nat → Int32) → (Nat → Int32) → (Nat → Int32) → (Nat → Int32) → Prop}
    (hQ : ∀ f1' f2' f3' co' less price stock worth, TX (n_thing T x1.toInt x2.toInt x3.toInt x4.toInt x5.toInt) less price stock worth → ((f1' = f1 ∧ f2' = f2 ∧ f3' = f3 ∧ co' = co ∧ n_thing T x1.toInt x2.toInt x3.toInt x4.toInt x5.toInt = T) ∨ (f1' = iI (-1) ∧ f2' = iI (-1) ∧ f3' = iI (-1) ∧ co' = 0)) → Q (iI (a_thing x1.toInt x2.toInt x3.toInt x4.toInt x5.toInt)) f1' f2' f3' co' less price stock worth) : wp_X6_thing x1 x2 x3 x4 x5 f1 f2 f3 co less price stock worth Q := by
  unfold wp_X6_thing
  unfold a_thing n_thing at hQ
  refine sp_X6_isThing (bz_n (fun h1 => ?_) (fun h1 => ?_))
  · rw [if_pos h1] at hQ
    refine sp_X6_within (bz_e (fun h2 => ?_) (fun h2 => sp_X6_within (bz_e (fun h3 => ?_) (fun h3 => sp_X6_within (bz_e (fun h4 => ?_) (fun h4 => sp_X6_within (bz_n (fun h5 => ?_) (fun h5 => ?_))))))))
    · have h2 : ¬ (0 ≤ x2.toInt ∧ x2.toInt ≤ 99) := h2
      rw [if_neg (fun q => h2 q.2.1), if_neg (fun q => h2 q.1)] at hQ
      exact hQ _ _ _ _ _ _ _ _ h (Or.inl ⟨rfl, rfl, rfl, rfl, rfl⟩)
    · have h3 : ¬ (0 ≤ x3.toInt ∧ x3.toInt ≤ 9) := h3
      rw [if_neg (fun q => h3 q.2.2.1), if_neg (fun q => h3 q.2.1)] at hQ
      exact hQ _ _ _ _ _ _ _ _ h (Or.inl ⟨rfl, rfl, rfl, rfl, rfl⟩)
    · have h4 : ¬ (0 ≤ x4.toInt ∧ x4.toInt ≤ 99) := h4
      rw [if_neg (fun q => h4 q.2.2.2.1), if_neg (fun q => h4 q.2.2.1)] at hQ
      exact hQ _ _ _ _ _ _ _ _ h (Or.inl ⟨rfl, rfl, rfl, rfl, rfl⟩)
    · have h2 : 0 ≤ x2.toInt ∧ x2.toInt ≤ 99 := h2
      have h3 : 0 ≤ x3.toInt ∧ x3.toInt ≤ 9 := h3
      have h4 : 0 ≤ x4.toInt ∧ x4.toInt ≤ 99 := h4
      have h5 : 0 ≤ x5.toInt ∧ x5.toInt ≤ 99 := h5
      rw [if_pos ⟨h1, h2, h3, h4, h5⟩, if_pos ⟨h2, h3, h4, h5⟩] at hQ
      have hin : vp_in x1 6 := vp_in_iff.mpr ⟨h1.1, by omega⟩
      refine ⟨hin, nm_r rfl ⟨hin, nm_r rfl ⟨hin, nm_r rfl ⟨hin, nm_r rfl ?_⟩⟩⟩⟩
      exact hQ _ _ _ _ _ _ _ _ (Tset_TX h h1 h2 h3 h4 h5) (Or.inr ⟨by decide, by decide, by decide, rfl⟩)
    · have h5 : ¬ (0 ≤ x5.toInt ∧ x5.toInt ≤ 99) := h5
      rw [if_neg (fun q => h5 q.2.2.2.2), if_neg (fun q => h5 q.2.2.2)] at hQ
      exact hQ _ _ _ _ _ _ _ _ h (Or.inl ⟨rfl, rfl, rfl, rfl, rfl⟩)
  · rw [if_neg h1, if_neg (fun q => h1 q.1)] at hQ
    exact hQ _ _ _ _ _ _ _ _ h (Or.inl ⟨rfl, rfl, rfl, rfl, rfl⟩)
theorem sp_X7_thing {T : Tn} {less price stock worth : Nat → Int32} (h : TX T less price stock worth) {x1 x2 x3 x4 x5 : Int32} {Q : Int32 → (Nat → Int32) → (Nat → Int32) → (Nat → Int32) → (Nat → Int32) → Prop}
    (hQ : ∀ less price stock worth, TX (n_thing T x1.toInt x2.toInt x3.toInt x4.toInt x5.toInt) less price stock worth → Q (iI (a_thing x1.toInt x2.toInt x3.toInt x4.toInt x5.toInt)) less price stock worth) : wp_X7_thing x1 x2 x3 x4 x5 less price stock worth Q := by
  unfold wp_X7_thing
  unfold a_thing n_thing at hQ
  refine sp_X7_isThing (bz_n (fun h1 => ?_) (fun h1 => ?_))
  · rw [if_pos h1] at hQ
    refine sp_X7_in (bz_e (fun h2 => ?_) (fun h2 => sp_X7_in (bz_e (fun h3 => ?_) (fun h3 => sp_X7_in (bz_e (fun h4 => ?_) (fun h4 => sp_X7_in (bz_n (fun h5 => ?_) (fun h5 => ?_))))))))
    · have h2 : ¬ (0 ≤ x2.toInt ∧ x2.toInt ≤ 99) := h2
      rw [if_neg (fun q => h2 q.2.1), if_neg (fun q => h2 q.1)] at hQ
      exact hQ _ _ _ _ h
    · have h3 : ¬ (0 ≤ x3.toInt ∧ x3.toInt ≤ 9) := h3
      rw [if_neg (fun q => h3 q.2.2.1), if_neg (fun q => h3 q.2.1)] at hQ
      exact hQ _ _ _ _ h
    · have h4 : ¬ (0 ≤ x4.toInt ∧ x4.toInt ≤ 99) := h4
      rw [if_neg (fun q => h4 q.2.2.2.1), if_neg (fun q => h4 q.2.2.1)] at hQ
      exact hQ _ _ _ _ h
    · have h2 : 0 ≤ x2.toInt ∧ x2.toInt ≤ 99 := h2
      have h3 : 0 ≤ x3.toInt ∧ x3.toInt ≤ 9 := h3
      have h4 : 0 ≤ x4.toInt ∧ x4.toInt ≤ 99 := h4
      have h5 : 0 ≤ x5.toInt ∧ x5.toInt ≤ 99 := h5
      rw [if_pos ⟨h1, h2, h3, h4, h5⟩, if_pos ⟨h2, h3, h4, h5⟩] at hQ
      have hin : vp_in x1 6 := vp_in_iff.mpr ⟨h1.1, by omega⟩
      refine ⟨hin, nm_r rfl ⟨hin, nm_r rfl ⟨hin, nm_r rfl ⟨hin, nm_r rfl ?_⟩⟩⟩⟩
      exact hQ _ _ _ _ (Tset_TX h h1 h2 h3 h4 h5)
    · have h5 : ¬ (0 ≤ x5.toInt ∧ x5.toInt ≤ 99) := h5
      rw [if_neg (fun q => h5 q.2.2.2.2), if_neg (fun q => h5 q.2.2.2)] at hQ
      exact hQ _ _ _ _ h
  · rw [if_neg h1, if_neg (fun q => h1 q.1)] at hQ
    exact hQ _ _ _ _ h
