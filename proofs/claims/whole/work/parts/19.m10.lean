/-! answers by searching -/
def TX (T : Tn) (less price stock worth : Nat → Int32) : Prop := Tok T ∧ aN price (tP T) 6 ∧ aN stock (tS T) 6 ∧ aN worth (tW T) 6 ∧ aN less (tL T) 6
/-- does this number come out -/
def cO (T : Tn) (z : Int) : Bool := decide (0 ≤ z ∧ z ≤ 999) && (rk T 63 z.toNat).isSome
theorem cO_iff (T : Tn) (z : Int) : cO T z = true ↔ (0 ≤ z ∧ z ≤ 999) ∧ (rk T 63 z.toNat).isSome = true := by
  unfold cO
  rw [Bool.and_eq_true, decide_eq_true_iff]
theorem bz_cO {T : Tn} {x : Int32} : bz ((0 ≤ x.toInt ∧ x.toInt ≤ 999) ∧ (rk T 63 x.toInt.toNat).isSome = true) = bz (cO T x.toInt = true) := by
  by_cases h : cO T x.toInt = true
  · rw [bz_t h, bz_t ((cO_iff T _).mp h)]
  · rw [bz_f h, bz_f (fun q => h ((cO_iff T _).mpr q))]
/-- the worth of the best basket that comes to z, 0 if none does -/
def wO (T : Tn) (z : Int) : Int := match rk T 63 z.toNat with
  | none => 0
  | some r => rw_ r
theorem wO_b {T : Tn} (hT : Tok T) (z : Int) : 0 ≤ wO T z ∧ wO T z ≤ 10000 := by
  unfold wO
  cases h : rk T 63 z.toNat with
  | none => exact ⟨Int.le_refl 0, show (0 : Int) ≤ 10000 by decide⟩
  | some r => exact rw_ge hT h
/-- how many of thing i there are in it -/
def kO (T : Tn) (z : Int) (i : Nat) : Int := match rk T 63 z.toNat with
  | none => 0
  | some r => rc_ r i
theorem kO_b {T : Tn} (hT : Tok T) (z : Int) (i : Nat) : 0 ≤ kO T z i ∧ kO T z i ≤ 9 := by
  unfold kO
  cases h : rk T 63 z.toNat with
  | none => exact ⟨Int.le_refl 0, show (0 : Int) ≤ 9 by decide⟩
  | some r => show 0 ≤ rc_ r i ∧ rc_ r i ≤ 9; unfold rc_; omega
theorem sp_X6_market {T : Tn} {less price stock worth : Nat → Int32} (h : TX T less price stock worth) {fw reach : Int32} {gains ranks : Nat → Int64} (hs : SHx T fw ranks) {Q : Int32 → (Nat → Int64) → (Nat → Int64) → Int32 → Prop} (hQ : ∀ gains ranks reach, RKs T 63 ranks → Q (iI 63) gains ranks reach) : wp_X6_market fw gains ranks reach less price stock worth Q :=
  sp_X3_fill (m := 63) h.1 h.2.1 h.2.2.1 h.2.2.2.1 h.2.2.2.2 (by omega) hs hQ
theorem SH63 {T : Tn} {ranks : Nat → Int64} (h : RKs T 63 ranks) : SHx T (iI 63) ranks := Or.inr ⟨63, by omega, rfl, h⟩
theorem sp_X3_cO {T : Tn} (hT : Tok T) {ranks : Nat → Int64} (hr : RKs T 63 ranks) {x : Int32} {Q : Int32 → Prop} (hQ : Q (bz (cO T x.toInt = true))) : wp_X3_comesOut x ranks Q :=
  sp_X3_comesOut hT hr (by rw [bz_cO]; exact hQ)
theorem sp_X7_cO {T : Tn} (hT : Tok T) {best many : Nat → Int32} (hb : MB T 63 0 best many) {x : Int32} {Q : Int32 → Prop} (hQ : Q (bz (cO T x.toInt = true))) : wp_X7_comesOut x best Q :=
  sp_X7_comesOut (m := 63) hT (fun s hs => by have := (hb s hs).1; rw [Nat.mul_zero, Nat.zero_add] at this; exact this) (by rw [bz_cO]; exact hQ)
theorem sp_X3_wO {T : Tn} (hT : Tok T) {ranks : Nat → Int64} (hr : RKs T 63 ranks) {x : Int32} (hx : 0 ≤ x.toInt ∧ x.toInt ≤ 999) {Q : Int32 → Prop} (hQ : Q (iI (wO T x.toInt))) : wp_X3_worthAt x ranks Q := by
  have e : x = iI ((x.toInt.toNat : Nat) : Int) := by
    refine (iI_of x).trans ?_
    congr 1; omega
  rw [e]
  exact sp_X3_worthAt hT hr (by omega) hQ
theorem sp_X3_kO {T : Tn} (hT : Tok T) {ranks : Nat → Int64} (hr : RKs T 63 ranks) {x : Int32} (hx : 0 ≤ x.toInt ∧ x.toInt ≤ 999) {i : Nat} (hi : i < 6) {Q : Int32 → Prop} (hQ : Q (iI (kO T x.toInt i))) : wp_X3_countAt x (iI (i : Int)) ranks Q := by
  have e : x = iI ((x.toInt.toNat : Nat) : Int) := by
    refine (iI_of x).trans ?_
    congr 1; omega
  rw [e]
  exact sp_X3_countAt hT hr (by omega) hi hQ
/-- the reference's table tells worths -/
theorem MB_w {T : Tn} (hT : Tok T) {best many : Nat → Int32} (hb : MB T 63 0 best many) {z : Int} (h : cO T z = true) : best z.toNat = iI (wO T z) := by
  have h2 := (cO_iff T z).mp h
  have := (hb z.toNat (by omega)).1
  rw [Nat.mul_zero, Nat.zero_add, em_vS hT] at this
  rw [this]
  unfold wO
  cases hk : rk T 63 z.toNat with
  | none => rw [hk] at h2; exact absurd h2.2 (by decide)
  | some r => rfl
/-- the first of r places from j on that p holds of -/
def fsr (p : Nat → Bool) : Nat → Nat → Option Nat
  | 0, _ => none
  | r + 1, j => if p j = true then some j else fsr p r (j + 1)
def fan (o : Option Nat) : Int := match o with
  | none => -6
  | some j => (j : Int)
theorem fsr_none {p : Nat → Bool} : ∀ r j, (∀ i, j ≤ i → i < j + r → p i = false) → fsr p r j = none := by
  intro r
  induction r with
  | zero => intro j _; rfl
  | succ r ih =>
    intro j h
    rw [fsr, if_neg (by rw [h j (Nat.le_refl j) (by omega)]; decide)]
    exact ih (j + 1) (fun i h1 h2 => h i (by omega) (by omega))
theorem fsr_more {p : Nat → Bool} {r2 : Nat} : ∀ r j, (∀ i, j + r ≤ i → i < j + r + r2 → p i = false) → fsr p (r + r2) j = fsr p r j := by
  intro r
  induction r with
  | zero => intro j h; rw [Nat.zero_add]; exact fsr_none r2 j (fun i h1 h2 => h i (by omega) (by omega))
  | succ r ih =>
    intro j h
    rw [show r + 1 + r2 = (r + r2) + 1 by omega, fsr, fsr]
    by_cases hp : p j = true
    · rw [if_pos hp, if_pos hp]
    · rw [if_neg hp, if_neg hp]
      exact ih (j + 1) (fun i h1 h2 => h i (by omega) (by omega))
/-! pins -/
def a_pins (T : Tn) (z : Int) : Int := if 0 ≤ z ∧ z ≤ 999 then fan (fsr (fun k => cO T (z - (k : Int))) 100 0) else -2
theorem sp_X6_pins {T : Tn} {less price stock worth : Nat → Int32} (h : TX T less price stock worth) {fw reach x : Int32} {gains ranks : Nat → Int64} (hs : SHx T fw ranks) {Q : Int32 → Int32 → (Nat → Int64) → (Nat → Int64) → Int32 → Prop} (hQ : ∀ fw gains ranks reach, SHx T fw ranks → Q (iI (a_pins T x.toInt)) fw gains ranks reach) : wp_X6_pins x fw gains ranks reach less price stock worth Q := by
  unfold wp_X6_pins
  unfold a_pins at hQ
  refine sp_X6_isSum (bz_n (fun hx => ?_) (fun hx => ?_))
  · rw [if_pos hx] at hQ
    refine sp_X6_market h hs (fun gains ranks reach hr => ⟨101, ?_⟩)
    have loop : ∀ r j, j + r = 100 → (∀ fw gains ranks reach, SHx T fw ranks → Q (iI (fan (fsr (fun k => cO T (x.toInt - (k : Int))) r j))) fw gains ranks reach) → wl_X6_pins_17 x (iI 63) gains ranks reach (wx_X6_pins_17 (iI 63) gains ranks reach Q) Q (r + 1) (iI (j : Int)) := by
      intro r
      induction r with
      | zero =>
        intro j hj hq
        show wb_X6_pins_17 _ _ _ _ _ _ _ _ _
        unfold wb_X6_pins_17
        exact br_lt 99 (j : Int) rfl (tN (by omega)) (fun _ => hq _ _ _ _ (SH63 hr)) (fun q => absurd q (by omega))
      | succ r ih =>
        intro j hj hq
        show wb_X6_pins_17 _ _ _ _ _ _ _ _ _
        unfold wb_X6_pins_17
        refine br_lt 99 (j : Int) rfl (tN (by omega)) (fun q => absurd q (by omega)) (fun _ => ?_)
        have e : (x - iI (j : Int)).toInt = x.toInt - (j : Int) := by rw [Jvm.Kit.i32_sub (by rw [tN (by omega)]; omega) (by rw [tN (by omega)]; omega), tN (by omega)]
        refine sp_X3_cO h.1 hr ?_
        rw [e]
        refine bz_e (fun q => nm_r (e' := iI ((j + 1 : Nat) : Int)) (iI_add _ 1) (ih (j + 1) (by omega) ?_)) (fun q => ?_)
        · rw [fsr, if_neg q] at hq; exact hq
        · rw [fsr, if_pos q] at hq; exact hq _ _ _ _ (SH63 hr)
    exact loop 100 0 (by omega) hQ
  · rw [if_neg hx] at hQ
    exact hQ _ _ _ _ hs
theorem sp_X7_pins {T : Tn} {less price stock worth best many : Nat → Int32} (h : TX T less price stock worth) {x : Int32} {Q : Int32 → (Nat → Int32) → (Nat → Int32) → Prop} (hQ : ∀ best many, Q (iI (a_pins T x.toInt)) best many) : wp_X7_pins x best less many price stock worth Q := by
  unfold wp_X7_pins
  unfold a_pins at hQ
  refine sp_X7_isSum (bz_n (fun hx => ?_) (fun hx => ?_))
  · rw [if_pos hx] at hQ
    refine sp_X7_fillAll h.1 h.2.1 h.2.2.1 h.2.2.2.1 h.2.2.2.2 (fun best many hB => ⟨101, ?_⟩)
    have hb := hB 0 (by omega)
    have loop : ∀ r j, j + r = 100 → (∀ best many, Q (iI (fan (fsr (fun k => cO T (x.toInt - (k : Int))) r j))) best many) → wl_X7_pins_16 x best many (wx_X7_pins_16 best many Q) Q (r + 1) (iI (j : Int)) := by
      intro r
      induction r with
      | zero =>
        intro j hj hq
        show wb_X7_pins_16 _ _ _ _ _ _ _
        unfold wb_X7_pins_16
        exact br_le 100 (j : Int) rfl (tN (by omega)) (fun _ => hq _ _) (fun q => absurd q (by omega))
      | succ r ih =>
        intro j hj hq
        show wb_X7_pins_16 _ _ _ _ _ _ _
        unfold wb_X7_pins_16
        refine br_le 100 (j : Int) rfl (tN (by omega)) (fun q => absurd q (by omega)) (fun _ => ?_)
        have e : (x - iI (j : Int)).toInt = x.toInt - (j : Int) := by rw [Jvm.Kit.i32_sub (by rw [tN (by omega)]; omega) (by rw [tN (by omega)]; omega), tN (by omega)]
        refine sp_X7_cO h.1 hb ?_
        rw [e]
        refine bz_e (fun q => nm_r (e' := iI ((j + 1 : Nat) : Int)) (iI_add _ 1) (ih (j + 1) (by omega) ?_)) (fun q => ?_)
        · rw [fsr, if_neg q] at hq; exact hq
        · rw [fsr, if_pos q] at hq; exact hq _ _
    exact loop 100 0 (by omega) hQ
  · rw [if_neg hx] at hQ
    exact hQ _ _
