/-! branches of the walks, by integers -/
theorem tI {z : Int} (h : -2147483648 ≤ z ∧ z < 2147483648) : (iI z).toInt = z := iI_toInt h.1 h.2
theorem tJ {z : Int} (h : -9223372036854775808 ≤ z ∧ z < 9223372036854775808) : (lI z).toInt = z := lI_toInt h.1 h.2
theorem br_lt {x y : Int32} {A B : Prop} (a b : Int) (hx : x.toInt = a) (hy : y.toInt = b) (hA : a < b → A) (hB : b ≤ a → B) : (x < y → A) ∧ (¬ (x < y) → B) :=
  ⟨fun h => hA (by rw [Int32.lt_iff_toInt_lt, hx, hy] at h; exact h), fun h => hB (by rw [Int32.lt_iff_toInt_lt, hx, hy] at h; omega)⟩
theorem br_le {x y : Int32} {A B : Prop} (a b : Int) (hx : x.toInt = a) (hy : y.toInt = b) (hA : a ≤ b → A) (hB : b < a → B) : (x ≤ y → A) ∧ (¬ (x ≤ y) → B) :=
  ⟨fun h => hA (by rw [Int32.le_iff_toInt_le, hx, hy] at h; exact h), fun h => hB (by rw [Int32.le_iff_toInt_le, hx, hy] at h; omega)⟩
theorem br_eq {x y : Int32} {A B : Prop} (a b : Int) (hx : x.toInt = a) (hy : y.toInt = b) (hA : a = b → A) (hB : a ≠ b → B) : (x = y → A) ∧ (¬ (x = y) → B) :=
  ⟨fun h => hA (by rw [← hx, ← hy, h]), fun h => hB (fun q => h (Int32.toInt_inj.mp (by rw [hx, hy, q])))⟩
theorem br_ne {x y : Int32} {A B : Prop} (a b : Int) (hx : x.toInt = a) (hy : y.toInt = b) (hA : a ≠ b → A) (hB : a = b → B) : (¬ x = y → A) ∧ (¬ (¬ x = y) → B) :=
  ⟨fun h => hA (fun q => h (Int32.toInt_inj.mp (by rw [hx, hy, q]))), fun h => hB (by rw [← hx, ← hy, Classical.not_not.mp h])⟩
theorem br_c0 {x y : Int64} {A B : Prop} (a b : Int) (hx : x.toInt = a) (hy : y.toInt = b) (hA : a = b → A) (hB : a ≠ b → B) : (lg_cmp x y = 0 → A) ∧ (¬ (lg_cmp x y = 0) → B) :=
  ⟨fun h => hA (by rw [lg_cmp_eq] at h; rw [← hx, ← hy, h]), fun h => hB (fun q => h ((lg_cmp_eq x y).mpr (Int64.toInt_inj.mp (by rw [hx, hy, q]))))⟩
theorem br_cle {x y : Int64} {A B : Prop} (a b : Int) (hx : x.toInt = a) (hy : y.toInt = b) (hA : a ≤ b → A) (hB : b < a → B) : (lg_cmp x y ≤ 0 → A) ∧ (¬ (lg_cmp x y ≤ 0) → B) :=
  ⟨fun h => hA (by rw [lg_cmp_le, Int64.le_iff_toInt_le, hx, hy] at h; exact h), fun h => hB (by rw [lg_cmp_le, Int64.le_iff_toInt_le, hx, hy] at h; omega)⟩
/-- a truth value as the machine has it -/
def bz (p : Prop) [Decidable p] : Int32 := if p then 1 else 0
theorem bz_t {p : Prop} [Decidable p] (h : p) : bz p = 1 := if_pos h
theorem bz_f {p : Prop} [Decidable p] (h : ¬ p) : bz p = 0 := if_neg h
theorem bz_e {p : Prop} [Decidable p] {A B : Prop} (hn : ¬ p → A) (hy : p → B) : (bz p = 0 → A) ∧ (¬ (bz p = 0) → B) := by
  by_cases h : p
  · rw [bz_t h]; exact ⟨fun q => absurd q (by decide), fun _ => hy h⟩
  · rw [bz_f h]; exact ⟨fun _ => hn h, fun q => absurd rfl q⟩
theorem bz_n {p : Prop} [Decidable p] {A B : Prop} (hy : p → A) (hn : ¬ p → B) : (¬ bz p = 0 → A) ∧ (¬ (¬ bz p = 0) → B) := by
  by_cases h : p
  · rw [bz_t h]; exact ⟨fun _ => hy h, fun q => absurd (by decide) q⟩
  · rw [bz_f h]; exact ⟨fun q => absurd rfl q, fun _ => hn h⟩
/-! leaves of the class -/
theorem sp_X6_within {x a b : Int32} {Q : Int32 → Prop} (hQ : Q (bz (a.toInt ≤ x.toInt ∧ x.toInt ≤ b.toInt))) : wp_X6_within x a b Q := by
  unfold wp_X6_within
  refine br_lt _ _ rfl rfl (fun h => ?_) (fun h => br_lt _ _ rfl rfl (fun h2 => ?_) (fun h2 => ?_))
  · rw [bz_f (by omega)] at hQ; exact hQ
  · rw [bz_f (by omega)] at hQ; exact hQ
  · rw [bz_t (by omega)] at hQ; exact hQ
theorem sp_X6_isThing {x : Int32} {Q : Int32 → Prop} (hQ : Q (bz (0 ≤ x.toInt ∧ x.toInt ≤ 5))) : wp_X6_isThing x Q := sp_X6_within (a := 0) (b := 5) hQ
theorem sp_X6_isSum {x : Int32} {Q : Int32 → Prop} (hQ : Q (bz (0 ≤ x.toInt ∧ x.toInt ≤ 999))) : wp_X6_isSum x Q := sp_X6_within (a := 0) (b := 999) hQ
theorem sp_X6_isImage {x : Int32} {Q : Int32 → Prop} (hQ : Q (bz (0 ≤ x.toInt ∧ x.toInt ≤ 1))) : wp_X6_isImage x Q := sp_X6_within (a := 0) (b := 1) hQ
theorem sp_X6_isSpan {x y : Int32} {Q : Int32 → Prop} (hQ : Q (bz (0 ≤ x.toInt ∧ x.toInt ≤ y.toInt ∧ y.toInt ≤ 999))) : wp_X6_isSpan x y Q := by
  unfold wp_X6_isSpan
  refine sp_X6_isSum (bz_e (fun h => ?_) (fun h => sp_X6_isSum (bz_e (fun h2 => ?_) (fun h2 => br_lt _ _ rfl rfl (fun h3 => ?_) (fun h3 => ?_)))))
  · rw [bz_f (by omega)] at hQ; exact hQ
  · rw [bz_f (by omega)] at hQ; exact hQ
  · rw [bz_f (by omega)] at hQ; exact hQ
  · rw [bz_t (by omega)] at hQ; exact hQ
/-- a row of numbers -/
def aN (f : Nat → Int32) (F : Nat → Nat) (n : Nat) : Prop := ∀ j, j < n → f j = iI (F j : Int)
theorem sp_X5_isSold {T : Tn} {price : Nat → Int32} (hT : Tok T) (hp : aN price (tP T) 6) {x : Int32} {Q : Int32 → Prop} (hQ : Q (bz ((0 ≤ x.toInt ∧ x.toInt ≤ 5) ∧ 0 < tP T x.toInt.toNat))) : wp_X5_isSold x price Q := by
  unfold wp_X5_isSold
  refine sp_X6_isThing (bz_e (fun h => ?_) (fun h => ⟨vp_in_iff.mpr ⟨h.1, by omega⟩, ?_⟩))
  · rw [bz_f (fun q => h q.1)] at hQ; exact hQ
  · have e : price (Int32.toNatClampNeg x) = iI (tP T x.toInt.toNat : Int) := hp x.toInt.toNat (by omega)
    have hb := (hT.1 x.toInt.toNat (by omega)).1
    rw [e]
    refine br_le _ 0 (tI (by omega)) rfl (fun h2 => ?_) (fun h2 => ?_)
    · rw [bz_f (by omega)] at hQ; exact hQ
    · rw [bz_t (by omega)] at hQ; exact hQ
theorem tN {t : Nat} (h : t < 2147483648) : (iI (t : Int)).toInt = t := tI (by omega)
theorem sp_X5_isSold_t {T : Tn} {price : Nat → Int32} (hT : Tok T) (hp : aN price (tP T) 6) {t : Nat} (ht : t < 6) {Q : Int32 → Prop} (hQ : Q (bz (0 < tP T t))) : wp_X5_isSold (iI (t : Int)) price Q := by
  refine sp_X5_isSold hT hp ?_
  have e : (iI (t : Int)).toInt = t := tN (by omega)
  by_cases h : 0 < tP T t
  · rw [bz_t h] at hQ
    rw [bz_t ⟨by omega, by rw [e]; exact h⟩]
    exact hQ
  · rw [bz_f h] at hQ
    rw [bz_f (fun q => h (by have := q.2; rw [e] at this; exact this))]
    exact hQ
theorem sp_X5_hasPurse {T : Tn} {purse : Nat → Int32} (hT : Tok T) (hp : ∀ p, p < 4 → purse p = iI (tQ T p)) {x : Int32} {Q : Int32 → Prop} (hQ : Q (bz ((0 ≤ x.toInt ∧ x.toInt ≤ 3) ∧ 0 ≤ tQ T x.toInt.toNat))) : wp_X5_hasPurse x purse Q := by
  unfold wp_X5_hasPurse
  refine sp_X6_within (bz_e (fun h => ?_) (fun h => ⟨vp_in_iff.mpr ⟨h.1, by have := h.2; have e3 : (3 : Int32).toInt = 3 := rfl; omega⟩, ?_⟩))
  · have e0 : (0 : Int32).toInt = 0 := rfl
    have e3 : (3 : Int32).toInt = 3 := rfl
    rw [e0, e3] at h
    rw [bz_f (fun q => h q.1)] at hQ; exact hQ
  · have e0 : (0 : Int32).toInt = 0 := rfl
    have e3 : (3 : Int32).toInt = 3 := rfl
    rw [e0, e3] at h
    have e : purse (Int32.toNatClampNeg x) = iI (tQ T x.toInt.toNat) := hp x.toInt.toNat (by omega)
    have hb := hT.2.1 x.toInt.toNat (by omega)
    rw [e]
    refine br_lt _ 0 (tI (by omega)) rfl (fun h2 => ?_) (fun h2 => ?_)
    · rw [bz_f (by omega)] at hQ; exact hQ
    · rw [bz_t (by omega)] at hQ; exact hQ
theorem mul_b {a b A B : Nat} (h1 : a ≤ A) (h2 : b ≤ B) : a * b ≤ A * B := Nat.mul_le_mul h1 h2
/-- one thing's worth: the clipped difference -/
theorem one_worth {W L j : Nat} (hW : W ≤ 99) (hL : L ≤ 99) (hj : j ≤ 10) : (if (0 : Int32) < (iI (W : Int) - iI (j : Int) * iI (L : Int)) then (iI (W : Int) - iI (j : Int) * iI (L : Int)) else (0 : Int32)) = iI ((W - j * L : Nat) : Int) := by
  have hm := mul_b hj hL
  rw [iI_mul, iI_sub, ← Int.natCast_mul]
  have e := iI_max (a := 0) (b := (W : Int) - ((j * L : Nat) : Int)) (by omega) (by omega) (by omega) (by omega)
  refine Eq.trans e ?_
  congr 1
  omega
theorem lo_X5_worthOf {T : Tn} {less worth : Nat → Int32} (hT : Tok T) (hw : aN worth (tW T) 6) (hl : aN less (tL T) 6) {t k : Nat} (ht : t < 6) (hk : k ≤ 10) {K : Int32 → Prop} (hK : K (iI (wN (tW T t) (tL T t) k : Int))) :
    ∀ r j, j + r = k → wl_X5_worthOf_5 (iI (t : Int)) (iI (k : Int)) less worth K (r + 1) (iI (wN (tW T t) (tL T t) j : Int)) (iI (j : Int)) := by
  have hb := hT.1 t ht
  intro r
  induction r with
  | zero =>
    intro j hj
    have : j = k := by omega
    subst this
    show wb_X5_worthOf_5 _ _ _ _ _ _ _ _
    unfold wb_X5_worthOf_5
    exact br_le _ _ rfl rfl (fun _ => hK) (fun h => absurd h (by omega))
  | succ r ih =>
    intro j hj
    show wb_X5_worthOf_5 _ _ _ _ _ _ _ _
    unfold wb_X5_worthOf_5
    have hin : vp_in (iI (t : Int)) 6 := iI_in (by omega) (by omega) (by omega)
    refine br_le (k : Int) (j : Int) (tN (by omega)) (tN (by omega)) (fun h => absurd h (by omega)) (fun _ => ⟨hin, hin, ?_⟩)
    rw [iI_clN (by omega), hw t ht, hl t ht]
    refine nm_r (e' := iI (wN (tW T t) (tL T t) (j + 1) : Int)) ?_ (nm_r (e' := iI ((j + 1 : Nat) : Int)) (iI_add _ 1) (ih (j + 1) (by omega)))
    rw [one_worth (by omega) (by omega) (by omega), iI_add, wN]
    congr 1
theorem sp_X5_worthOf {T : Tn} {less worth : Nat → Int32} (hT : Tok T) (hw : aN worth (tW T) 6) (hl : aN less (tL T) 6) {t k : Nat} (ht : t < 6) (hk : k ≤ 10) {Q : Int32 → Prop} (hQ : Q (iI (wN (tW T t) (tL T t) k : Int))) : wp_X5_worthOf (iI (t : Int)) (iI (k : Int)) less worth Q :=
  ⟨k + 1, lo_X5_worthOf hT hw hl ht hk (K := fun k_x3 => wx_X5_worthOf_5 k_x3 Q) hQ k 0 (by omega)⟩
/-! weigh: what k of a thing add to a rank -/
theorem wN_b (T : Tn) (hT : Tok T) {t k : Nat} (ht : t < 6) (hk : k ≤ 10) : wN (tW T t) (tL T t) k ≤ 990 := by
  have h1 := wN_le (tW T t) (tL T t) k
  have h2 := mul_b hk ((hT.1 t ht).2.2.1)
  omega
theorem p10_b (t : Nat) : p10 t ≤ 100000 := by
  unfold p10
  have : 10 ^ (5 - t) ≤ 10 ^ 5 := Nat.pow_le_pow_right (by decide) (by omega)
  exact this
theorem kp_b (t : Nat) {k : Nat} (hk : k ≤ 10) : k * p10 t ≤ 1000000 := by
  have h := mul_b hk (p10_b t)
  omega
theorem lo_X3_weigh_7 {K : Int64 → Prop} (t : Nat) (ht : t < 6) (hK : K (lI (p10 t : Int))) :
    ∀ r j, t + 1 + j + r = 6 → wl_X3_weigh_7 K (r + 1) (lI ((10 ^ j : Nat) : Int)) (iI ((t + 1 + j : Nat) : Int)) := by
  intro r
  induction r with
  | zero =>
    intro j hj
    have e : 5 - t = j := by omega
    show wb_X3_weigh_7 _ _ _ _
    unfold wb_X3_weigh_7
    refine br_le 6 ((t + 1 + j : Nat) : Int) rfl (tN (by omega)) (fun _ => ?_) (fun h => absurd h (by omega))
    rw [← e]; exact hK
  | succ r ih =>
    intro j hj
    show wb_X3_weigh_7 _ _ _ _
    unfold wb_X3_weigh_7
    refine br_le 6 ((t + 1 + j : Nat) : Int) rfl (tN (by omega)) (fun h => absurd h (by omega)) (fun _ => ?_)
    refine nm_r (e' := lI ((10 ^ (j + 1) : Nat) : Int)) ?_ (nm_r (e' := iI ((t + 1 + (j + 1) : Nat) : Int)) (iI_add _ 1) (ih (j + 1) (by omega)))
    refine (lI_mul _ 10).trans ?_
    rw [Nat.pow_succ, Int.natCast_mul]
    rfl
theorem lo_X3_weigh_29 {T : Tn} {less worth : Nat → Int32} (hT : Tok T) (hw : aN worth (tW T) 6) (hl : aN less (tL T) 6) {t : Nat} (ht : t < 6) {K : (Nat → Int64) → Prop} (hK : ∀ gains : Nat → Int64, (∀ k, k < 10 → gains k = lI (gk T t k)) → K gains) :
    ∀ r j, j + r = 10 → ∀ gains : Nat → Int64, (∀ k, k < j → gains k = lI (gk T t k)) → wl_X3_weigh_29 (iI (t : Int)) (lI (p10 t : Int)) less worth K (r + 1) (iI (j : Int)) gains := by
  intro r
  induction r with
  | zero =>
    intro j hj gains hg
    show wb_X3_weigh_29 _ _ _ _ _ _ _ _
    unfold wb_X3_weigh_29
    exact br_le 10 (j : Int) rfl (tN (by omega)) (fun _ => hK gains (fun k hk => hg k (by omega))) (fun h => absurd h (by omega))
  | succ r ih =>
    intro j hj gains hg
    show wb_X3_weigh_29 _ _ _ _ _ _ _ _
    unfold wb_X3_weigh_29
    refine br_le 10 (j : Int) rfl (tN (by omega)) (fun h => absurd h (by omega)) (fun _ => ?_)
    refine sp_X5_worthOf hT hw hl ht (by omega) ⟨iI_in (by omega) (by omega) (by omega), ?_⟩
    have hb := wN_b T hT ht (k := j) (by omega)
    have hp := p10_b t
    refine nm_r rfl (nm_r (e' := iI ((j + 1 : Nat) : Int)) (iI_add _ 1) (ih (j + 1) (by omega) _ (fun k hk => ?_)))
    rw [iI_clN (by omega)]
    unfold vp_updL
    by_cases h : k = j
    · subst h
      rw [if_pos rfl, iI_l (by omega) (by omega), iI_l (by omega) (by omega), lI_mul, gk]
      exact (congrArg (fun z => z - _) (lI_mul _ 1000000)).trans (lI_sub _ _)
    · rw [if_neg h]; exact hg k (by omega)
theorem sp_X3_weigh {T : Tn} {less worth : Nat → Int32} (hT : Tok T) (hw : aN worth (tW T) 6) (hl : aN less (tL T) 6) {t : Nat} (ht : t < 6) {gains : Nat → Int64} {Q : (Nat → Int64) → Prop} (hQ : ∀ gains : Nat → Int64, (∀ k, k < 10 → gains k = lI (gk T t k)) → Q gains) : wp_X3_weigh (iI (t : Int)) less worth gains Q := by
  unfold wp_X3_weigh
  refine nm_r (e' := lI 1) rfl (nm_r (e' := iI ((t + 1 : Nat) : Int)) (iI_add _ 1) ⟨5 - t + 1, ?_⟩)
  refine lo_X3_weigh_7 t ht ?_ (5 - t) 0 (by omega)
  exact ⟨11, lo_X3_weigh_29 hT hw hl ht (K := fun g => wx_X3_weigh_29 g Q) hQ 10 0 (by omega) _ (fun k hk => absurd hk (by omega))⟩
