/-! weeks, near -/
theorem nat_of {x : Int32} (h : 0 ≤ x.toInt) : x = iI ((x.toInt.toNat : Nat) : Int) := by
  refine (iI_of x).trans ?_
  congr 1; omega
def a_weeks (T : Tn) (z w : Int) : Int := if 0 ≤ z ∧ z ≤ 999 then (if 1 ≤ w ∧ w ≤ 999 then fan (fsr (fun k => cO T (z + ((k * w.toNat : Nat) : Int))) 100 0) else -2) else -2
theorem wk_e {x y : Int32} {j : Nat} (hx : 0 ≤ x.toInt ∧ x.toInt ≤ 999) (hy : 1 ≤ y.toInt ∧ y.toInt ≤ 999) (hj : j ≤ 100) : (x + iI (j : Int) * y).toInt = x.toInt + ((j * y.toInt.toNat : Nat) : Int) := by
  have hm := mul_b hj (show y.toInt.toNat ≤ 999 by omega)
  have e : iI (j : Int) * y = iI ((j * y.toInt.toNat : Nat) : Int) := by
    rw [show iI (j : Int) * y = iI (j : Int) * iI ((y.toInt.toNat : Nat) : Int) from congrArg _ (nat_of (by omega)), iI_mul, ← Int.natCast_mul]
  rw [e, Jvm.Kit.i32_add (by rw [tN (by omega)]; omega) (by rw [tN (by omega)]; omega), tN (by omega)]
theorem sp_X6_weeks {T : Tn} {less price stock worth : Nat → Int32} (h : TX T less price stock worth) {fw reach x y : Int32} {gains ranks : Nat → Int64} (hs : SHx T fw ranks) {Q : Int32 → Int32 → (Nat → Int64) → (Nat → Int64) → Int32 → Prop} (hQ : ∀ fw gains ranks reach, SHx T fw ranks → Q (iI (a_weeks T x.toInt y.toInt)) fw gains ranks reach) : wp_X6_weeks x y fw gains ranks reach less price stock worth Q := by
  unfold wp_X6_weeks
  unfold a_weeks at hQ
  refine sp_X6_isSum (bz_e (fun hx => ?_) (fun hx => sp_X6_within (bz_n (fun hy => ?_) (fun hy => ?_))))
  · rw [if_neg hx] at hQ; exact hQ _ _ _ _ hs
  · have hy : 1 ≤ y.toInt ∧ y.toInt ≤ 999 := hy
    rw [if_pos hx, if_pos hy] at hQ
    refine sp_X6_market h hs (fun gains ranks reach hr => ⟨101, ?_⟩)
    have loop : ∀ r j, j + r = 100 → (∀ fw gains ranks reach, SHx T fw ranks → Q (iI (fan (fsr (fun k => cO T (x.toInt + ((k * y.toInt.toNat : Nat) : Int))) r j))) fw gains ranks reach) → wl_X6_weeks_29 x y (iI 63) gains ranks reach (wx_X6_weeks_29 (iI 63) gains ranks reach Q) Q (r + 1) (iI (j : Int)) := by
      intro r
      induction r with
      | zero =>
        intro j hj hq
        show wb_X6_weeks_29 _ _ _ _ _ _ _ _ _ _
        unfold wb_X6_weeks_29
        exact br_lt 99 (j : Int) rfl (tN (by omega)) (fun _ => hq _ _ _ _ (SH63 hr)) (fun q => absurd q (by omega))
      | succ r ih =>
        intro j hj hq
        show wb_X6_weeks_29 _ _ _ _ _ _ _ _ _ _
        unfold wb_X6_weeks_29
        refine br_lt 99 (j : Int) rfl (tN (by omega)) (fun q => absurd q (by omega)) (fun _ => ?_)
        refine sp_X3_cO h.1 hr ?_
        rw [wk_e hx hy (by omega)]
        refine bz_e (fun q => nm_r (e' := iI ((j + 1 : Nat) : Int)) (iI_add _ 1) (ih (j + 1) (by omega) ?_)) (fun q => ?_)
        · rw [fsr, if_neg q] at hq; exact hq
        · rw [fsr, if_pos q] at hq; exact hq _ _ _ _ (SH63 hr)
    exact loop 100 0 (by omega) hQ
  · have hy : ¬ (1 ≤ y.toInt ∧ y.toInt ≤ 999) := hy
    rw [if_pos hx, if_neg hy] at hQ; exact hQ _ _ _ _ hs
theorem sp_X7_weeks {T : Tn} {less price stock worth best many : Nat → Int32} (h : TX T less price stock worth) {x y : Int32} {Q : Int32 → (Nat → Int32) → (Nat → Int32) → Prop} (hQ : ∀ best many, Q (iI (a_weeks T x.toInt y.toInt)) best many) : wp_X7_weeks x y best less many price stock worth Q := by
  unfold wp_X7_weeks
  unfold a_weeks at hQ
  refine sp_X7_isSum (bz_e (fun hx => ?_) (fun hx => sp_X7_in (bz_n (fun hy => ?_) (fun hy => ?_))))
  · rw [if_neg hx] at hQ; exact hQ _ _
  · have hy : 1 ≤ y.toInt ∧ y.toInt ≤ 999 := hy
    rw [if_pos hx, if_pos hy] at hQ
    refine sp_X7_fillAll h.1 h.2.1 h.2.2.1 h.2.2.2.1 h.2.2.2.2 (fun best many hB => ⟨101, ?_⟩)
    have hb := hB 0 (by omega)
    have loop : ∀ r j, j + r = 100 → (∀ best many, Q (iI (fan (fsr (fun k => cO T (x.toInt + ((k * y.toInt.toNat : Nat) : Int))) r j))) best many) → wl_X7_weeks_28 x y best many (wx_X7_weeks_28 best many Q) Q (r + 1) (iI (j : Int)) := by
      intro r
      induction r with
      | zero =>
        intro j hj hq
        show wb_X7_weeks_28 _ _ _ _ _ _ _ _
        unfold wb_X7_weeks_28
        exact br_le 100 (j : Int) rfl (tN (by omega)) (fun _ => hq _ _) (fun q => absurd q (by omega))
      | succ r ih =>
        intro j hj hq
        show wb_X7_weeks_28 _ _ _ _ _ _ _ _
        unfold wb_X7_weeks_28
        refine br_le 100 (j : Int) rfl (tN (by omega)) (fun q => absurd q (by omega)) (fun _ => ?_)
        refine sp_X7_cO h.1 hb ?_
        rw [wk_e hx hy (by omega)]
        refine bz_e (fun q => nm_r (e' := iI ((j + 1 : Nat) : Int)) (iI_add _ 1) (ih (j + 1) (by omega) ?_)) (fun q => ?_)
        · rw [fsr, if_neg q] at hq; exact hq
        · rw [fsr, if_pos q] at hq; exact hq _ _
    exact loop 100 0 (by omega) hQ
  · have hy : ¬ (1 ≤ y.toInt ∧ y.toInt ≤ 999) := hy
    rw [if_pos hx, if_neg hy] at hQ; exact hQ _ _
theorem mo_at0 (T : Tn) (m t : Nat) (f : Nat → Option Int) : ro T m t f 0 = f 0 := by
  by_cases h : sold T m t = true
  · have hP : 0 < tP T t := by
      unfold sold at h
      rw [Bool.and_eq_true, decide_eq_true_iff] at h
      exact h.2
    unfold ro
    exact mo_zero hP (gk_0 T t) (by unfold nS; split <;> omega)
  · rw [ro_un T m t (by simpa using h)]
theorem rk_0 (T : Tn) (m : Nat) : rk T m 0 = some 0 := by
  unfold rk
  simp only [fwd, mo_at0]
  rfl
theorem cO_0 (T : Tn) : cO T 0 = true := by
  rw [cO_iff]
  refine ⟨by omega, ?_⟩
  show (rk T 63 0).isSome = true
  rw [rk_0]; rfl
def fab (z : Int) (o : Option Nat) : Int := match o with
  | none => -6
  | some k => z + (k : Int)
def fbl (z : Int) (o : Option Nat) : Int := match o with
  | none => -6
  | some k => z - (k : Int)
def a_near (T : Tn) (z w : Int) : Int := if 0 ≤ z ∧ z ≤ 999 then (if 0 ≤ w ∧ w ≤ 1 then (if w = 0 then fbl z (fsr (fun k => cO T (z - (k : Int))) (z.toNat + 1) 0) else fab z (fsr (fun k => cO T (z + (k : Int))) (1000 - z.toNat) 0)) else -2) else -2
theorem sp_X6_nearestBelow {T : Tn} {less price stock worth : Nat → Int32} (h : TX T less price stock worth) {fw reach x : Int32} {gains ranks : Nat → Int64} (hs : SHx T fw ranks) (hx : 0 ≤ x.toInt ∧ x.toInt ≤ 999) {Q : Int32 → Int32 → (Nat → Int64) → (Nat → Int64) → Int32 → Prop} (hQ : ∀ fw gains ranks reach, SHx T fw ranks → Q (iI (fbl x.toInt (fsr (fun k => cO T (x.toInt - (k : Int))) (x.toInt.toNat + 1) 0))) fw gains ranks reach) : wp_X6_nearestBelow x fw gains ranks reach less price stock worth Q := by
  unfold wp_X6_nearestBelow
  refine sp_X6_market h hs (fun gains ranks reach hr => ⟨x.toInt.toNat + 1, ?_⟩)
  have loop : ∀ r j, j + r = x.toInt.toNat → (∀ fw gains ranks reach, SHx T fw ranks → Q (iI (fbl x.toInt (fsr (fun k => cO T (x.toInt - (k : Int))) (r + 1) j))) fw gains ranks reach) → wl_X6_nearestBelow_7 (iI 63) gains ranks reach (wx_X6_nearestBelow_7 (iI 63) gains ranks reach Q) Q (r + 1) (iI (r : Int)) := by
    intro r
    induction r with
    | zero =>
      intro j hj hq
      show wb_X6_nearestBelow_7 _ _ _ _ _ _ _ _
      unfold wb_X6_nearestBelow_7
      refine br_le ((0 : Nat) : Int) 0 (tN (by omega)) rfl (fun _ => ?_) (fun q => absurd q (by omega))
      have e : x.toInt - (j : Int) = 0 := by omega
      rw [fsr, if_pos (by rw [e]; exact cO_0 T)] at hq
      have e2 : fbl x.toInt (some j) = 0 := e
      rw [e2] at hq
      exact hq _ _ _ _ (SH63 hr)
    | succ r ih =>
      intro j hj hq
      show wb_X6_nearestBelow_7 _ _ _ _ _ _ _ _
      unfold wb_X6_nearestBelow_7
      refine br_le ((r + 1 : Nat) : Int) 0 (tN (by omega)) rfl (fun q => absurd q (by omega)) (fun _ => ?_)
      refine sp_X3_cO h.1 hr ?_
      have e : x.toInt - (j : Int) = ((r + 1 : Nat) : Int) := by omega
      rw [tN (by omega), ← e]
      rw [fsr] at hq
      refine bz_e (fun q => nm_r (e' := iI (r : Int)) (by rw [e, iI_m1]; congr 1; omega) (ih (j + 1) (by omega) ?_)) (fun q => ?_)
      · rw [if_neg q] at hq; exact hq
      · rw [if_pos q] at hq
        exact hq _ _ _ _ (SH63 hr)
  have := loop x.toInt.toNat 0 (by omega) hQ
  rw [← nat_of hx.1] at this
  exact this
theorem sp_X6_nearestAbove {T : Tn} {less price stock worth : Nat → Int32} (h : TX T less price stock worth) {fw reach x : Int32} {gains ranks : Nat → Int64} (hs : SHx T fw ranks) (hx : 0 ≤ x.toInt ∧ x.toInt ≤ 999) {Q : Int32 → Int32 → (Nat → Int64) → (Nat → Int64) → Int32 → Prop} (hQ : ∀ fw gains ranks reach, SHx T fw ranks → Q (iI (fab x.toInt (fsr (fun k => cO T (x.toInt + (k : Int))) (1000 - x.toInt.toNat) 0))) fw gains ranks reach) : wp_X6_nearestAbove x fw gains ranks reach less price stock worth Q := by
  unfold wp_X6_nearestAbove
  refine sp_X6_market h hs (fun gains ranks reach hr => ⟨1000 - x.toInt.toNat + 1, ?_⟩)
  have loop : ∀ r j, x.toInt.toNat + j + r = 1000 → (∀ fw gains ranks reach, SHx T fw ranks → Q (iI (fab x.toInt (fsr (fun k => cO T (x.toInt + (k : Int))) r j))) fw gains ranks reach) → wl_X6_nearestAbove_7 (iI 63) gains ranks reach (wx_X6_nearestAbove_7 (iI 63) gains ranks reach Q) Q (r + 1) (iI (x.toInt + (j : Int))) := by
    intro r
    induction r with
    | zero =>
      intro j hj hq
      show wb_X6_nearestAbove_7 _ _ _ _ _ _ _ _
      unfold wb_X6_nearestAbove_7
      exact br_lt 999 (x.toInt + (j : Int)) rfl (tI (by omega)) (fun _ => hq _ _ _ _ (SH63 hr)) (fun q => absurd q (by omega))
    | succ r ih =>
      intro j hj hq
      show wb_X6_nearestAbove_7 _ _ _ _ _ _ _ _
      unfold wb_X6_nearestAbove_7
      refine br_lt 999 (x.toInt + (j : Int)) rfl (tI (by omega)) (fun q => absurd q (by omega)) (fun _ => ?_)
      refine sp_X3_cO h.1 hr ?_
      rw [tI (by omega)]
      rw [fsr] at hq
      refine bz_e (fun q => nm_r (e' := iI (x.toInt + ((j + 1 : Nat) : Int))) ((iI_add _ 1).trans (by congr 1; omega)) (ih (j + 1) (by omega) ?_)) (fun q => ?_)
      · rw [if_neg q] at hq; exact hq
      · rw [if_pos q] at hq
        exact hq _ _ _ _ (SH63 hr)
  have := loop (1000 - x.toInt.toNat) 0 (by omega) hQ
  rw [show x.toInt + ((0 : Nat) : Int) = x.toInt by omega, ← iI_of x] at this
  exact this
theorem sp_X6_near {T : Tn} {less price stock worth : Nat → Int32} (h : TX T less price stock worth) {fw reach x y : Int32} {gains ranks : Nat → Int64} (hs : SHx T fw ranks) {Q : Int32 → Int32 → (Nat → Int64) → (Nat → Int64) → Int32 → Prop} (hQ : ∀ fw gains ranks reach, SHx T fw ranks → Q (iI (a_near T x.toInt y.toInt)) fw gains ranks reach) : wp_X6_near x y fw gains ranks reach less price stock worth Q := by
  unfold wp_X6_near
  unfold a_near at hQ
  refine sp_X6_isSum (bz_e (fun hx => ?_) (fun hx => sp_X6_within (bz_n (fun hy => ?_) (fun hy => ?_))))
  · rw [if_neg hx] at hQ; exact hQ _ _ _ _ hs
  · have hy : 0 ≤ y.toInt ∧ y.toInt ≤ 1 := hy
    rw [if_pos hx, if_pos hy] at hQ
    refine br_ne y.toInt 0 rfl rfl (fun q => ?_) (fun q => ?_)
    · rw [if_neg q] at hQ; exact sp_X6_nearestAbove h hs hx hQ
    · rw [if_pos q] at hQ; exact sp_X6_nearestBelow h hs hx hQ
  · have hy : ¬ (0 ≤ y.toInt ∧ y.toInt ≤ 1) := hy
    rw [if_pos hx, if_neg hy] at hQ; exact hQ _ _ _ _ hs
theorem sp_X7_near {T : Tn} {less price stock worth best many : Nat → Int32} (h : TX T less price stock worth) {x y : Int32} {Q : Int32 → (Nat → Int32) → (Nat → Int32) → Prop} (hQ : ∀ best many, Q (iI (a_near T x.toInt y.toInt)) best many) : wp_X7_near x y best less many price stock worth Q := by
  unfold wp_X7_near
  unfold a_near at hQ
  refine sp_X7_isSum (bz_e (fun hx => ?_) (fun hx => sp_X7_in (bz_n (fun hy => ?_) (fun hy => ?_))))
  · rw [if_neg hx] at hQ; exact hQ _ _
  · have hy : 0 ≤ y.toInt ∧ y.toInt ≤ 1 := hy
    rw [if_pos hx, if_pos hy] at hQ
    refine sp_X7_fillAll h.1 h.2.1 h.2.2.1 h.2.2.2.1 h.2.2.2.2 (fun best many hB => ?_)
    have hb := hB 0 (by omega)
    have fin : ∀ z : Int, -1 ≤ z ∧ z ≤ 1000 → (∀ best many, Q (iI (if 0 ≤ z ∧ z ≤ 999 then z else -6)) best many) → wx_X7_near_26 (iI z) best many Q := by
      intro z hz hq
      unfold wx_X7_near_26
      refine sp_X7_isSum ?_
      rw [tI (by omega)]
      refine bz_e (fun g => ?_) (fun g => ?_)
      · rw [if_neg g] at hq; exact hq _ _
      · rw [if_pos g] at hq; exact hq _ _
    by_cases h0 : y.toInt = 0
    · rw [if_pos h0] at hQ
      have hy0 : y = 0 := Int32.toInt_inj.mp h0
      subst hy0
      refine ⟨x.toInt.toNat + 1, ?_⟩
      have loop : ∀ r j, j + r = x.toInt.toNat → (∀ best many, Q (iI (fbl x.toInt (fsr (fun k => cO T (x.toInt - (k : Int))) (r + 1) j))) best many) → wl_X7_near_26 0 best (fun k => wx_X7_near_26 k best many Q) (r + 1) (iI (r : Int)) := by
        intro r
        induction r with
        | zero =>
          intro j hj hq
          show wb_X7_near_26 _ _ _ _ _
          unfold wb_X7_near_26
          refine sp_X7_isSum ?_
          rw [tN (by omega), bz_t (by omega)]
          refine ⟨fun q => absurd q (by decide), fun _ => ?_⟩
          refine sp_X7_cO h.1 hb ?_
          have e : x.toInt - (j : Int) = 0 := by omega
          rw [fsr, if_pos (by rw [e]; exact cO_0 T)] at hq
          rw [tN (by omega), bz_t (by exact cO_0 T)]
          refine ⟨fun _ => fin ((0 : Nat) : Int) (by omega) ?_, fun q => absurd (by decide) q⟩
          have e2 : fbl x.toInt (some j) = 0 := e
          rw [e2] at hq
          exact hq
        | succ r ih =>
          intro j hj hq
          show wb_X7_near_26 _ _ _ _ _
          unfold wb_X7_near_26
          refine sp_X7_isSum ?_
          rw [tN (by omega), bz_t (by omega)]
          refine ⟨fun q => absurd q (by decide), fun _ => ?_⟩
          refine sp_X7_cO h.1 hb ?_
          have e : x.toInt - (j : Int) = ((r + 1 : Nat) : Int) := by omega
          rw [tN (by omega), ← e]
          rw [fsr] at hq
          refine bz_n (fun q => ?_) (fun q => ⟨fun q => absurd rfl q, fun _ => nm_r (e' := iI (r : Int)) (by rw [e, iI_m1]; congr 1; omega) (ih (j + 1) (by omega) ?_)⟩)
          · rw [if_pos q] at hq
            refine fin _ (by omega) ?_
            rw [if_pos (by omega)]
            exact hq
          · rw [if_neg q] at hq; exact hq
      have := loop x.toInt.toNat 0 (by omega) hQ
      rw [← nat_of hx.1] at this
      exact this
    · rw [if_neg h0] at hQ
      have hy1 : y = 1 := Int32.toInt_inj.mp (show y.toInt = 1 by omega)
      subst hy1
      refine ⟨1000 - x.toInt.toNat + 1, ?_⟩
      have loop : ∀ r j, x.toInt.toNat + j + r = 1000 → (∀ best many, Q (iI (fab x.toInt (fsr (fun k => cO T (x.toInt + (k : Int))) r j))) best many) → wl_X7_near_26 1 best (fun k => wx_X7_near_26 k best many Q) (r + 1) (iI (x.toInt + (j : Int))) := by
        intro r
        induction r with
        | zero =>
          intro j hj hq
          show wb_X7_near_26 _ _ _ _ _
          unfold wb_X7_near_26
          refine sp_X7_isSum ?_
          rw [tI (by omega), bz_f (by omega)]
          refine ⟨fun _ => fin _ (by omega) ?_, fun q => absurd rfl q⟩
          rw [if_neg (by omega)]
          exact hq
        | succ r ih =>
          intro j hj hq
          show wb_X7_near_26 _ _ _ _ _
          unfold wb_X7_near_26
          refine sp_X7_isSum ?_
          rw [tI (by omega), bz_t (by omega)]
          refine ⟨fun q => absurd q (by decide), fun _ => ?_⟩
          refine sp_X7_cO h.1 hb ?_
          rw [tI (by omega)]
          rw [fsr] at hq
          refine bz_n (fun q => ?_) (fun q => ⟨fun _ => nm_r (e' := iI (x.toInt + ((j + 1 : Nat) : Int))) ((iI_add _ 1).trans (by congr 1; omega)) (ih (j + 1) (by omega) ?_), fun q => absurd (by decide) q⟩)
          · rw [if_pos q] at hq
            refine fin _ (by omega) ?_
            rw [if_pos (by omega)]
            exact hq
          · rw [if_neg q] at hq; exact hq
      have := loop (1000 - x.toInt.toNat) 0 (by omega) hQ
      rw [show x.toInt + ((0 : Nat) : Int) = x.toInt by omega, ← iI_of x] at this
      exact this
  · have hy : ¬ (0 ≤ y.toInt ∧ y.toInt ≤ 1) := hy
    rw [if_pos hx, if_neg hy] at hQ; exact hQ _ _
