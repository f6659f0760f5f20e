/-! stock without end: which sums come out -/
theorem iI_div {a d : Nat} (ha : a < 2147483648) (h0 : 0 < d) (hd : d < 2147483648) : iI (a : Int) / iI (d : Int) = iI ((a / d : Nat) : Int) := by
  rw [← iI_nI, ← iI_nI, pk_div ha h0 hd, iI_nI]
/-- s is a sum of the first n prices, so many of each -/
def Re (P : Nat → Nat) : Nat → Nat → Prop
  | 0, s => s = 0
  | n + 1, s => ∃ j, j * P n ≤ s ∧ Re P n (s - j * P n)
theorem Re_mono {P : Nat → Nat} {n s : Nat} (h : Re P n s) : Re P (n + 1) s := ⟨0, by rw [Nat.zero_mul]; exact Nat.zero_le _, by rw [Nat.zero_mul]; exact h⟩
theorem Re_0 (P : Nat → Nat) : ∀ n, Re P n 0 := by
  intro n
  induction n with
  | zero => rfl
  | succ n ih => exact Re_mono ih
theorem Re_sum {P : Nat → Nat} : ∀ n s u, Re P n s → Re P n u → Re P n (s + u) := by
  intro n
  induction n with
  | zero => intro s u h1 h2; have h1 : s = 0 := h1; have h2 : u = 0 := h2; show s + u = 0; omega
  | succ n ih =>
    intro s u h1 h2
    obtain ⟨j, a1, a2⟩ := h1
    obtain ⟨k, b1, b2⟩ := h2
    refine ⟨j + k, ?_, ?_⟩
    · rw [Nat.add_mul]; omega
    · rw [Nat.add_mul, show s + u - (j * P n + k * P n) = (s - j * P n) + (u - k * P n) by omega]
      exact ih _ _ a2 b2
theorem Re_one {P : Nat → Nat} : ∀ n i, i < n → Re P n (P i) := by
  intro n
  induction n with
  | zero => intro i h; omega
  | succ n ih =>
    intro i h
    by_cases e : i = n
    · subst e
      exact ⟨1, by omega, by rw [Nat.one_mul, Nat.sub_self]; exact Re_0 P i⟩
    · exact Re_mono (ih i (by omega))
theorem Re_mul {P : Nat → Nat} {n s : Nat} (h : Re P n s) : ∀ k, Re P n (k * s) := by
  intro k
  induction k with
  | zero => rw [Nat.zero_mul]; exact Re_0 P n
  | succ k ih => rw [Nat.succ_mul]; exact Re_sum n _ _ ih h
theorem Re_add {P : Nat → Nat} {n s i : Nat} (hi : i < n) (h : Re P n s) : Re P n (s + P i) := Re_sum n _ _ h (Re_one n i hi)
theorem Re_pred {P : Nat → Nat} : ∀ n s, Re P n s → 0 < s → ∃ i, i < n ∧ 0 < P i ∧ P i ≤ s ∧ Re P n (s - P i) := by
  intro n
  induction n with
  | zero => intro s h hs; have h : s = 0 := h; omega
  | succ n ih =>
    intro s h hs
    obtain ⟨j, a1, a2⟩ := h
    by_cases e : j * P n = 0
    · rw [e, Nat.sub_zero] at a2
      obtain ⟨i, h1, h2, h3, h4⟩ := ih s a2 hs
      exact ⟨i, by omega, h2, h3, Re_mono h4⟩
    · cases j with
      | zero => exact absurd (Nat.zero_mul _) e
      | succ k =>
        have hP : 0 < P n := by
          rcases Nat.eq_zero_or_pos (P n) with q | q
          · rw [q, Nat.mul_zero] at e; exact absurd rfl e
          · exact q
        rw [Nat.succ_mul] at a1 a2
        exact ⟨n, by omega, hP, by omega, k, by omega, by rw [show s - P n - k * P n = s - (k * P n + P n) by omega]; exact a2⟩
theorem Re_iff {P : Nat → Nat} {s : Nat} : Re P 6 s ↔ s = 0 ∨ ∃ i, i < 6 ∧ 0 < P i ∧ P i ≤ s ∧ Re P 6 (s - P i) := by
  refine ⟨fun h => ?_, fun h => ?_⟩
  · rcases Nat.eq_zero_or_pos s with q | q
    · exact Or.inl q
    · exact Or.inr (Re_pred 6 s h q)
  · rcases h with h | ⟨i, h1, h2, h3, h4⟩
    · rw [h]; exact Re_0 P 6
    · have := Re_add h1 h4
      rwa [Nat.sub_add_cancel h3] at this
theorem Re_dvd {P : Nat → Nat} {h : Nat} : ∀ n s, (∀ i, i < n → h ∣ P i) → Re P n s → h ∣ s := by
  intro n
  induction n with
  | zero => intro s _ hs; have hs : s = 0 := hs; rw [hs]; exact Nat.dvd_zero h
  | succ n ih =>
    intro s hP hs
    obtain ⟨j, a1, a2⟩ := hs
    have h1 := ih _ (fun i hi => hP i (by omega)) a2
    have h2 : h ∣ j * P n := Nat.dvd_trans (hP n (by omega)) (Nat.dvd_mul_left _ _)
    have := Nat.dvd_add h1 h2
    rwa [Nat.sub_add_cancel a1] at this
theorem Re_z {P : Nat → Nat} {n s : Nat} (h : P n = 0) : Re P (n + 1) s ↔ Re P n s := by
  refine ⟨fun ⟨j, _, a2⟩ => ?_, Re_mono⟩
  rw [h, Nat.mul_zero, Nat.sub_zero] at a2
  exact a2
/-! by few things each remainder is reached -/
def GG (P : Nat → Nat) : Nat → Nat → Prop
  | 0, s => s = 0
  | k + 1, s => GG P k s ∨ ∃ i, i < 6 ∧ P i ≤ s ∧ GG P k (s - P i)
theorem GG_Re {P : Nat → Nat} (hP : ∀ i, i < 6 → P i ≤ 99) : ∀ k s, GG P k s → Re P 6 s ∧ s ≤ 99 * k := by
  intro k
  induction k with
  | zero => intro s h; have h : s = 0 := h; rw [h]; exact ⟨Re_0 P 6, Nat.le_refl 0⟩
  | succ k ih =>
    intro s h
    rcases h with h | ⟨i, h1, h2, h3⟩
    · have := ih s h; exact ⟨this.1, by omega⟩
    · have g := ih _ h3
      have g2 := hP i h1
      refine ⟨?_, by omega⟩
      have := Re_add h1 g.1
      rwa [Nat.sub_add_cancel h2] at this
theorem Re_GG {P : Nat → Nat} : ∀ s, Re P 6 s → ∃ k, GG P k s := by
  intro s
  induction s using Nat.strongRecOn with
  | ind s ih =>
    intro h
    rcases Re_iff.mp h with q | ⟨i, h1, h2, h3, h4⟩
    · exact ⟨0, q⟩
    · obtain ⟨k, hk⟩ := ih (s - P i) (by omega) h4
      exact ⟨k + 1, Or.inr ⟨i, h1, h3, hk⟩⟩
def AA (P : Nat → Nat) (d k r : Nat) : Prop := ∃ s, GG P k s ∧ s % d = r
theorem AA_mono {P : Nat → Nat} {d k r : Nat} (h : AA P d k r) : AA P d (k + 1) r := by
  obtain ⟨s, h1, h2⟩ := h
  exact ⟨s, Or.inl h1, h2⟩
theorem add_mod_eq {d a b p : Nat} (h : a % d = b % d) : (a + p) % d = (b + p) % d := by
  rw [Nat.add_mod, h, ← Nat.add_mod]
theorem AA_stable {P : Nat → Nat} {d k : Nat} (h : ∀ r, AA P d (k + 1) r → AA P d k r) : ∀ j r, AA P d (k + j) r → AA P d k r := by
  intro j
  induction j with
  | zero => intro r hr; exact hr
  | succ j ih =>
    intro r hr
    obtain ⟨s, h1, h2⟩ := hr
    rcases h1 with h1 | ⟨i, g1, g2, g3⟩
    · exact ih r ⟨s, h1, h2⟩
    · obtain ⟨u, k1, k2⟩ := ih _ ⟨s - P i, g3, rfl⟩
      refine h r ⟨u + P i, Or.inr ⟨i, g1, by omega, by rw [Nat.add_sub_cancel]; exact k1⟩, ?_⟩
      rw [add_mod_eq k2, Nat.sub_add_cancel g2]
      exact h2
/-- one if so -/
noncomputable def cB (p : Prop) : Nat := @ite Nat p (Classical.propDecidable p) 1 0
theorem cB_t {p : Prop} (h : p) : cB p = 1 := if_pos h
theorem cB_f {p : Prop} (h : ¬ p) : cB p = 0 := if_neg h
theorem cB_le (p : Prop) : cB p ≤ 1 := by
  by_cases h : p
  · rw [cB_t h]; exact Nat.le_refl 1
  · rw [cB_f h]; exact Nat.zero_le 1
noncomputable def cnP (p : Nat → Prop) : Nat → Nat
  | 0 => 0
  | n + 1 => cnP p n + cB (p n)
theorem cnP_le (p : Nat → Prop) : ∀ n, cnP p n ≤ n := by
  intro n
  induction n with
  | zero => exact Nat.le_refl 0
  | succ n ih => rw [cnP]; have := cB_le (p n); omega
theorem cnP_mono {p q : Nat → Prop} (h : ∀ r, p r → q r) : ∀ n, cnP p n ≤ cnP q n := by
  intro n
  induction n with
  | zero => exact Nat.le_refl 0
  | succ n ih =>
    rw [cnP, cnP]
    by_cases hp : p n
    · rw [cB_t hp, cB_t (h n hp)]; omega
    · rw [cB_f hp]; omega
theorem cnP_lt {p q : Nat → Prop} (h : ∀ r, p r → q r) {r0 : Nat} (hq : q r0) (hp : ¬ p r0) : ∀ n, r0 < n → cnP p n + 1 ≤ cnP q n := by
  intro n
  induction n with
  | zero => intro h; omega
  | succ n ih =>
    intro hr
    rw [cnP, cnP]
    by_cases e : r0 = n
    · subst e
      rw [cB_f hp, cB_t hq]
      have := cnP_mono h r0
      omega
    · have := ih (by omega)
      by_cases hp : p n
      · rw [cB_t hp, cB_t (h n hp)]; omega
      · rw [cB_f hp]; omega
theorem AA_ex {P : Nat → Nat} {d : Nat} (hd : 0 < d) : ∃ k, k < d ∧ ∀ r, AA P d (k + 1) r → AA P d k r := by
  apply Classical.byContradiction
  intro hc
  have grow : ∀ k, k ≤ d → k + 1 ≤ cnP (AA P d k) d := by
    intro k
    induction k with
    | zero =>
      intro _
      have := cnP_lt (p := fun _ => False) (q := AA P d 0) (fun _ h => h.elim) (r0 := 0) ⟨0, rfl, Nat.zero_mod d⟩ (fun h => h) d hd
      omega
    | succ k ih =>
      intro hk
      have h1 := ih (by omega)
      have h2 : ¬ ∀ r, AA P d (k + 1) r → AA P d k r := fun q => hc ⟨k, by omega, q⟩
      obtain ⟨r, h3⟩ := Classical.not_forall.mp h2
      obtain ⟨h4, h5⟩ := Classical.not_imp.mp h3
      have hr : r < d := by
        obtain ⟨s, -, h6⟩ := h4
        rw [← h6]; exact Nat.mod_lt _ hd
      have := cnP_lt (p := AA P d k) (q := AA P d (k + 1)) (fun r => AA_mono) h4 h5 d hr
      omega
  have := grow d (Nat.le_refl d)
  have := cnP_le (AA P d d) d
  omega
theorem AA_up {P : Nat → Nat} {d r : Nat} : ∀ j k, AA P d k r → AA P d (k + j) r := by
  intro j
  induction j with
  | zero => intro k h; exact h
  | succ j ih => intro k h; exact AA_mono (ih k h)
/-- a remainder that is reached at all is reached by 9702 -/
theorem Re_small {P : Nat → Nat} (hP : ∀ i, i < 6 → P i ≤ 99) {d : Nat} (hd : 0 < d ∧ d ≤ 99) {s : Nat} (h : Re P 6 s) : ∃ u, Re P 6 u ∧ u % d = s % d ∧ u ≤ 9702 := by
  obtain ⟨j, hj⟩ := Re_GG s h
  obtain ⟨k, hk, hs⟩ := AA_ex (P := P) hd.1
  have h1 : AA P d j (s % d) := ⟨s, hj, rfl⟩
  have h2 : AA P d k (s % d) := by
    rcases Nat.le_total k j with q | q
    · refine AA_stable hs (j - k) _ ?_
      rw [show k + (j - k) = j by omega]; exact h1
    · have := AA_up (k - j) j h1
      rwa [show j + (k - j) = k by omega] at this
  obtain ⟨u, g1, g2⟩ := h2
  have g3 := GG_Re hP k u g1
  exact ⟨u, g3.1, g2, by omega⟩
/-! the greatest common part -/
def cpt (P : Nat → Nat) : Nat → Nat
  | 0 => 0
  | n + 1 => Nat.gcd (cpt P n) (P n)
theorem cpt_dvd (P : Nat → Nat) : ∀ n i, i < n → cpt P n ∣ P i := by
  intro n
  induction n with
  | zero => intro i h; omega
  | succ n ih =>
    intro i h
    by_cases e : i = n
    · subst e; exact Nat.gcd_dvd_right _ _
    · exact Nat.dvd_trans (Nat.gcd_dvd_left _ _) (ih i (by omega))
/-- m is, up to d, a sum that comes out -/
def RR (P : Nat → Nat) (d m : Nat) : Prop := ∃ s, Re P 6 s ∧ s % d = m % d
theorem RR_gcd {P : Nat → Nat} {d : Nat} (hd : 0 < d) : ∀ x u, RR P d u → RR P d x → RR P d (Nat.gcd u x) := by
  intro x
  induction x using Nat.strongRecOn with
  | ind x ih =>
    intro u hu hx
    by_cases h0 : x = 0
    · rw [h0, Nat.gcd_zero_right]; exact hu
    · rw [Nat.gcd_comm, Nat.gcd_rec, Nat.gcd_comm]
      refine ih (u % x) (Nat.mod_lt _ (by omega)) x hx ?_
      obtain ⟨s, h1, h2⟩ := hu
      obtain ⟨v, g1, g2⟩ := hx
      refine ⟨s + ((u / x) * (d - 1)) * v, Re_sum 6 _ _ h1 (Re_mul g1 _), ?_⟩
      have e1 : (((u / x) * (d - 1)) * v) % d = (((u / x) * (d - 1)) * x) % d := by
        rw [Nat.mul_mod, g2, ← Nat.mul_mod]
      have e2 : (s + ((u / x) * (d - 1)) * v) % d = (u + ((u / x) * (d - 1)) * x) % d := by
        rw [Nat.add_mod, h2, e1, ← Nat.add_mod]
      rw [e2]
      have e3 : u + ((u / x) * (d - 1)) * x = u % x + d * ((u / x) * x) := by
        have e4 := Nat.div_add_mod u x
        have e5 : ((u / x) * (d - 1)) * x + x * (u / x) = d * ((u / x) * x) := by
          obtain ⟨c, rfl⟩ : ∃ c, d = c + 1 := ⟨d - 1, by omega⟩
          rw [Nat.add_sub_cancel, Nat.succ_mul]
          have e6 : (u / x) * c * x = c * ((u / x) * x) := by
            rw [Nat.mul_comm (u / x) c, Nat.mul_assoc]
          rw [e6, Nat.mul_comm x (u / x)]
        omega
      rw [e3, Nat.add_mul_mod_self_left]
theorem RR_cpt {P : Nat → Nat} {d : Nat} (hd : 0 < d) : ∀ n, n ≤ 6 → RR P d (cpt P n) := by
  intro n
  induction n with
  | zero => intro _; exact ⟨0, Re_0 P 6, rfl⟩
  | succ n ih => intro hn; exact RR_gcd hd _ _ (ih (by omega)) ⟨P n, Re_one 6 n (by omega), rfl⟩
theorem cpt_1 {P : Nat → Nat} {d : Nat} (hd : 0 < d) (h : cpt P 6 = 1) (r : Nat) (hr : r < d) : ∃ s, Re P 6 s ∧ s % d = r := by
  obtain ⟨s, h1, h2⟩ := RR_cpt (P := P) hd 6 (by omega)
  rw [h] at h2
  refine ⟨r * s, Re_mul h1 r, ?_⟩
  rw [Nat.mul_mod, h2, ← Nat.mul_mod, Nat.mul_one, Nat.mod_eq_of_lt hr]
theorem cpt_n1 {P : Nat → Nat} {d i : Nat} (hi : i < 6) (hd : P i = d) (h0 : 0 < d) (h : cpt P 6 ≠ 1) : 1 < d ∧ ∀ s, Re P 6 s → s % d ≠ 1 := by
  have h1 : cpt P 6 ∣ d := by rw [← hd]; exact cpt_dvd P 6 i hi
  have h2 : 0 < cpt P 6 := Nat.pos_of_dvd_of_pos h1 h0
  have h3 := Nat.le_of_dvd h0 h1
  refine ⟨by omega, fun s hs h4 => h ?_⟩
  have h5 := Re_dvd 6 s (fun i hi => cpt_dvd P 6 i hi) hs
  have h6 : cpt P 6 ∣ s % d := (Nat.dvd_mod_iff h1).mpr h5
  rw [h4] at h6
  exact Nat.dvd_one.mp h6
