/-! the town: price, stock, worth, less; purses; sights (thing, count, how; how many) -/
abbrev Tn : Type := (Nat → Nat) × (Nat → Nat) × (Nat → Nat) × (Nat → Nat) × (Nat → Int) × (Nat → Nat) × (Nat → Nat) × (Nat → Nat) × Nat
def tP (T : Tn) : Nat → Nat := T.1
def tS (T : Tn) : Nat → Nat := T.2.1
def tW (T : Tn) : Nat → Nat := T.2.2.1
def tL (T : Tn) : Nat → Nat := T.2.2.2.1
def tQ (T : Tn) : Nat → Int := T.2.2.2.2.1
def sT (T : Tn) : Nat → Nat := T.2.2.2.2.2.1
def sC (T : Tn) : Nat → Nat := T.2.2.2.2.2.2.1
def sH (T : Tn) : Nat → Nat := T.2.2.2.2.2.2.2.1
def sN (T : Tn) : Nat := T.2.2.2.2.2.2.2.2
/-- the bounds that a town keeps -/
def Tok (T : Tn) : Prop := (∀ t, t < 6 → tP T t ≤ 99 ∧ tS T t ≤ 9 ∧ tW T t ≤ 99 ∧ tL T t ≤ 99) ∧ (∀ p, p < 4 → -1 ≤ tQ T p ∧ tQ T p ≤ 999) ∧ (∀ k, k < 6 → sT T k ≤ 5 ∧ sC T k ≤ 9 ∧ sH T k ≤ 1) ∧ sN T ≤ 6
/-- what k of a thing are worth -/
def wN (W L : Nat) : Nat → Nat
  | 0 => 0
  | k + 1 => wN W L k + (W - k * L)
theorem wN_le (W L : Nat) : ∀ k, wN W L k ≤ k * W := by
  intro k
  induction k with
  | zero => simp [wN]
  | succ k ih =>
    have : W - k * L ≤ W := Nat.sub_le _ _
    rw [wN, Nat.succ_mul]
    omega
def p10 (t : Nat) : Nat := 10 ^ (5 - t)
theorem p10_pos (t : Nat) : 0 < p10 t := Nat.pow_pos (by decide)
/-- what k of thing t add to a rank -/
def gk (T : Tn) (t k : Nat) : Int := (wN (tW T t) (tL T t) k : Int) * 1000000 - (k : Int) * (p10 t : Int)
/-- thing t is sold, and in the set m -/
def sold (T : Tn) (m t : Nat) : Bool := m.testBit t && decide (0 < tP T t)
/-- how many counts of thing t there are -/
def nS (T : Tn) (m t : Nat) : Nat := if sold T m t = true then tS T t + 1 else 1
def ro (T : Tn) (m t : Nat) : (Nat → Option Int) → (Nat → Option Int) := mo (tP T t) (gk T t) (nS T m t)
def vo (T : Tn) (m t : Nat) : (Nat → Option Int) → (Nat → Option Int) := mo (tP T t) (fun k => (wN (tW T t) (tL T t) k : Int)) (nS T m t)
def dl : Nat → Option Int := fun s => if s = 0 then some 0 else none
/-- the best rank of each sum, of the things in the set m -/
def rk (T : Tn) (m : Nat) : Nat → Option Int := fwd (ro T m) 6 dl
def rS (T : Tn) (m t : Nat) : Nat → Option Int := bwd (ro T m) t (6 - t) dl
def vS (T : Tn) (m t : Nat) : Nat → Option Int := bwd (vo T m) t (6 - t) dl
theorem mo_one (P : Nat) (g : Nat → Int) (hg : g 0 = 0) (f : Nat → Option Int) : mo P g 1 f = f := by
  funext s
  simp only [mo, cv, bo, Nat.zero_mul, Nat.zero_le, if_true, Nat.sub_zero]
  cases f s with
  | none => rfl
  | some v => simp [omax, hg]
theorem gk_0 (T : Tn) (t : Nat) : gk T t 0 = 0 := by simp [gk, wN]
theorem ro_un (T : Tn) (m t : Nat) (h : sold T m t = false) (f : Nat → Option Int) : ro T m t f = f := by
  unfold ro nS
  rw [if_neg (by rw [h]; decide)]
  exact mo_one _ _ (gk_0 T t) f
theorem vo_un (T : Tn) (m t : Nat) (h : sold T m t = false) (f : Nat → Option Int) : vo T m t f = f := by
  unfold vo nS
  rw [if_neg (by rw [h]; decide)]
  exact mo_one _ _ (by simp [wN]) f
theorem rk_rS (T : Tn) (m : Nat) : rk T m = rS T m 0 := fwd_bwd (ro T m) (fun i j f => mo_comm _ _ _ _ _ _ f) 6 dl
theorem rS_step (T : Tn) (m t : Nat) (h : t < 6) : rS T m t = ro T m t (rS T m (t + 1)) := by
  unfold rS
  rw [show 6 - t = (6 - (t + 1)) + 1 by omega]
  rfl
theorem vS_step (T : Tn) (m t : Nat) (h : t < 6) : vS T m t = vo T m t (vS T m (t + 1)) := by
  unfold vS
  rw [show 6 - t = (6 - (t + 1)) + 1 by omega]
  rfl
theorem rS_6 (T : Tn) (m : Nat) : rS T m 6 = dl := rfl
theorem vS_6 (T : Tn) (m : Nat) : vS T m 6 = dl := rfl
/-- the least count of thing t that goes on to the best worth of s -/
def Fst (V : Nat → Option Int) (P : Nat) (w : Nat → Int) (n s k0 : Nat) (v : Int) : Prop :=
  k0 < n ∧ k0 * P ≤ s ∧ (∃ x, V (s - k0 * P) = some x ∧ x + w k0 = v) ∧ ∀ j, j < k0 → j * P ≤ s → ∀ x, V (s - j * P) = some x → x + w j < v
/-- the counts from thing t on, by the least that go on -/
def Grd (T : Tn) (m : Nat) : Nat → Nat → Nat → (Nat → Nat) → Prop
  | _, 0, s, _ => s = 0
  | t, n + 1, s, d => (∃ v, vS T m t s = some v ∧ Fst (vS T m (t + 1)) (tP T t) (fun k => (wN (tW T t) (tL T t) k : Int)) (nS T m t) s (d t) v) ∧ Grd T m (t + 1) n (s - d t * tP T t) d
/-- the code of counts from thing t on (n of them) -/
def cod (d : Nat → Nat) : Nat → Nat → Nat
  | _, 0 => 0
  | t, n + 1 => d t * p10 t + cod d (t + 1) n
/-- one step: best worth and best rank, by the same count -/
theorem best_step (V R : Nat → Option Int) (c : Nat → Int) (P : Nat) (w : Nat → Nat) (B s : Nat) (hB : 10 * B ≤ 1000000)
    (hV : ∀ s, (V s = none ∧ R s = none) ∨ ∃ v : Int, V s = some v ∧ R s = some (v * 1000000 - c s) ∧ 0 ≤ c s ∧ c s < B) :
    ∀ n, n ≤ 10 → (mo P (fun k => (w k : Int)) n V s = none ∧ mo P (fun k => (w k : Int) * 1000000 - (k : Int) * (B : Int)) n R s = none) ∨
      ∃ (v : Int) (k0 : Nat), mo P (fun k => (w k : Int)) n V s = some v ∧ Fst V P (fun k => (w k : Int)) n s k0 v ∧ mo P (fun k => (w k : Int) * 1000000 - (k : Int) * (B : Int)) n R s = some (v * 1000000 - ((k0 : Int) * (B : Int) + c (s - k0 * P))) := by
  intro n
  induction n with
  | zero => intro _; left; exact ⟨rfl, rfl⟩
  | succ n ih =>
    intro hn
    have e1 : ∀ (g : Nat → Int) (f : Nat → Option Int), mo P g (n + 1) f s = omax (mo P g n f s) (if n * P ≤ s then (f (s - n * P)).map (fun v => v + g n) else none) := fun g f => rfl
    rw [e1, e1]
    by_cases hP : n * P ≤ s
    · rw [if_pos hP, if_pos hP]
      rcases hV (s - n * P) with ⟨h1, h2⟩ | ⟨v', h1, h2, h3, h4⟩
      · rw [h1, h2]
        simp only [Option.map, omax_none]
        rcases ih (by omega) with h | ⟨v, k0, a1, a2, a3⟩
        · exact Or.inl h
        · right
          refine ⟨v, k0, a1, ⟨by have := a2.1; omega, a2.2⟩, a3⟩
      · rw [h1, h2]
        simp only [Option.map]
        rcases ih (by omega) with ⟨q1, q2⟩ | ⟨v, k0, a1, a2, a3⟩
        · right
          rw [q1, q2]
          refine ⟨v' + w n, n, rfl, ⟨by omega, hP, ⟨v', h1, rfl⟩, ?_⟩, ?_⟩
          · intro j hj hjP x hx
            exfalso
            have hjn : ∀ n', n' ≤ n → j < n' → mo P (fun k => (w k : Int)) n' V s ≠ none := by
              intro n'
              induction n' with
              | zero => intro _ h; omega
              | succ n' ih' =>
                intro h1' h2'
                show omax (mo P (fun k => (w k : Int)) n' V s) (if n' * P ≤ s then (V (s - n' * P)).map (fun v => v + (w n' : Int)) else none) ≠ none
                by_cases hjj : j = n'
                · subst hjj
                  rw [if_pos hjP, hx]
                  cases mo P (fun k => (w k : Int)) j V s <;> simp [omax]
                · have := ih' (by omega) (by omega)
                  cases hq : mo P (fun k => (w k : Int)) n' V s with
                  | none => exact absurd hq this
                  | some y =>
                    cases (if n' * P ≤ s then (V (s - n' * P)).map (fun v => v + (w n' : Int)) else none) <;> simp [omax]
            exact hjn n (Nat.le_refl n) hj q1
          · simp only [omax]
            congr 1
            rw [Int.add_mul]
            omega
        · right
          rw [a1, a3]
          simp only [omax]
          obtain ⟨hk, hkP, ⟨x, hx, hxv⟩, hlt⟩ := a2
          have hcx : 0 ≤ c (s - k0 * P) ∧ c (s - k0 * P) < B := by
            rcases hV (s - k0 * P) with ⟨g1, -⟩ | ⟨v2, g1, g2, g3, g4⟩
            · rw [hx] at g1; cases g1
            · exact ⟨g3, g4⟩
          have hkB : (k0 : Int) * (B : Int) + (B : Int) ≤ (n : Int) * (B : Int) := by
            have : (k0 + 1) * B ≤ n * B := Nat.mul_le_mul_right B (by omega)
            rw [Nat.add_mul, Nat.one_mul] at this
            rw [← Int.natCast_mul, ← Int.natCast_mul]
            omega
          have hnB : (n : Int) * (B : Int) + (B : Int) ≤ 1000000 := by
            have : (n + 1) * B ≤ 10 * B := Nat.mul_le_mul_right B (by omega)
            rw [Nat.add_mul, Nat.one_mul] at this
            have h3 := Nat.le_trans this hB
            rw [← Int.natCast_mul]
            omega
          have hB0 : (0 : Int) ≤ (n : Int) * (B : Int) := by
            rw [← Int.natCast_mul]
            omega
          have hB1 : (0 : Int) ≤ (k0 : Int) * (B : Int) := by
            rw [← Int.natCast_mul]
            omega
          by_cases hvv : v < v' + w n
          · refine ⟨v' + w n, n, ?_, ⟨by omega, hP, ⟨v', h1, rfl⟩, ?_⟩, ?_⟩
            · rw [if_pos (by omega)]
            · intro j hj hjP y hy
              have hm : ∀ n', n' ≤ n → j < n' → ∃ z, mo P (fun k => (w k : Int)) n' V s = some z ∧ y + w j ≤ z := by
                intro n'
                induction n' with
                | zero => intro _ h; omega
                | succ n' ih' =>
                  intro h1' h2'
                  have e9 : mo P (fun k => (w k : Int)) (n' + 1) V s = omax (mo P (fun k => (w k : Int)) n' V s) (if n' * P ≤ s then (V (s - n' * P)).map (fun v => v + (w n' : Int)) else none) := rfl
                  rw [e9]
                  by_cases hjj : j = n'
                  · subst hjj
                    rw [if_pos hjP, hy]
                    cases mo P (fun k => (w k : Int)) j V s with
                    | none => exact ⟨y + w j, rfl, Int.le_refl _⟩
                    | some z =>
                      refine ⟨_, rfl, ?_⟩
                      show y + (w j : Int) ≤ if z ≤ y + (w j : Int) then y + (w j : Int) else z
                      split <;> omega
                  · obtain ⟨z, hz, hzl⟩ := ih' (by omega) (by omega)
                    rw [hz]
                    cases (if n' * P ≤ s then (V (s - n' * P)).map (fun v => v + (w n' : Int)) else none) with
                    | none => exact ⟨z, rfl, hzl⟩
                    | some z2 =>
                      refine ⟨_, rfl, ?_⟩
                      show y + (w j : Int) ≤ if z ≤ z2 then z2 else z
                      split <;> omega
              obtain ⟨z, hz, hzl⟩ := hm n (Nat.le_refl n) hj
              rw [a1] at hz
              cases hz
              show y + (w j : Int) < v' + (w n : Int)
              omega
            · rw [if_pos (by omega)]
              congr 1
              omega
          · refine ⟨v, k0, ?_, ⟨by omega, hkP, ⟨x, hx, hxv⟩, hlt⟩, ?_⟩
            · congr 1
              split <;> omega
            · congr 1
              rw [if_neg (by omega)]
    · rw [if_neg hP, if_neg hP, omax_none, omax_none]
      rcases ih (by omega) with h | ⟨v, k0, a1, a2, a3⟩
      · exact Or.inl h
      · right
        exact ⟨v, k0, a1, ⟨by have := a2.1; omega, a2.2⟩, a3⟩
theorem cod_lt (d : Nat → Nat) (hd : ∀ i, d i ≤ 9) : ∀ n t, t + n = 6 → cod d t n < 10 * p10 t ∧ (t < 6 → cod d t n < 10 * p10 t) := by
  intro n
  induction n with
  | zero => intro t _; exact ⟨by have := p10_pos t; simp [cod]; omega, fun _ => by have := p10_pos t; simp [cod]; omega⟩
  | succ n ih =>
    intro t ht
    have h1 : cod d t (n + 1) < 10 * p10 t := by
      rw [cod]
      by_cases h5 : t = 5
      · subst h5
        have : n = 0 := by omega
        subst this
        have := hd 5
        simp [cod, p10]
        omega
      · have h2 := (ih (t + 1) (by omega)).1
        have h3 : p10 t = 10 * p10 (t + 1) := by
          unfold p10
          rw [show 5 - t = (5 - (t + 1)) + 1 by omega, Nat.pow_succ, Nat.mul_comm]
        have h4 : d t * p10 t ≤ 9 * p10 t := Nat.mul_le_mul_right _ (hd t)
        omega
    exact ⟨h1, fun _ => h1⟩
theorem nS_le (T : Tn) (hT : Tok T) (m t : Nat) (ht : t < 6) : nS T m t ≤ 10 := by
  unfold nS
  have := (hT.1 t ht).2.1
  split <;> omega
/-- THE BEST BASKET: the rank holds its worth and its counts, the counts being the least that go on -/
theorem best_all (T : Tn) (hT : Tok T) (m : Nat) : ∀ n t, t + n = 6 → ∃ c : Nat → Nat → Nat, (∀ s i, c s i ≤ 9) ∧ ∀ s, (vS T m t s = none ∧ rS T m t s = none) ∨
    ∃ v : Int, vS T m t s = some v ∧ 0 ≤ v ∧ rS T m t s = some (v * 1000000 - (cod (c s) t n : Int)) ∧ Grd T m t n s (c s) := by
  intro n
  induction n with
  | zero =>
    intro t ht
    have : t = 6 := by omega
    subst this
    refine ⟨fun _ _ => 0, fun _ _ => Nat.zero_le _, fun s => ?_⟩
    rw [rS_6, vS_6]
    unfold dl
    by_cases hs : s = 0
    · right
      rw [if_pos hs]
      exact ⟨0, rfl, Int.le_refl 0, rfl, hs⟩
    · left
      rw [if_neg hs]
      exact ⟨rfl, rfl⟩
  | succ n ih =>
    intro t ht
    obtain ⟨c, hc9, hc⟩ := ih (t + 1) (by omega)
    have ht6 : t < 6 := by omega
    have hB : 10 * p10 t ≤ 1000000 := by
      unfold p10
      have : 10 ^ (5 - t) ≤ 10 ^ 5 := Nat.pow_le_pow_right (by decide) (by omega)
      have h5 : (10 : Nat) ^ 5 = 100000 := rfl
      omega
    have hcb : ∀ s, (cod (c s) (t + 1) n : Int) < (p10 t : Int) := by
      intro s
      have h2 := (cod_lt (c s) (hc9 s) n (t + 1) (by omega)).1
      by_cases h5 : t = 5
      · subst h5
        have : n = 0 := by omega
        subst this
        simp [cod, p10]
      · have h3 : p10 t = 10 * p10 (t + 1) := by
          unfold p10
          rw [show 5 - t = (5 - (t + 1)) + 1 by omega, Nat.pow_succ, Nat.mul_comm]
        omega
    have key := fun s => best_step (vS T m (t + 1)) (rS T m (t + 1)) (fun s => (cod (c s) (t + 1) n : Int)) (tP T t) (wN (tW T t) (tL T t)) (p10 t) s hB
      (fun s => by
        rcases hc s with h | ⟨v, h1, h2, h3, h4⟩
        · exact Or.inl h
        · exact Or.inr ⟨v, h1, h3, by omega, hcb s⟩) (nS T m t) (nS_le T hT m t ht6)
    refine Classical.axiomOfChoice (r := fun s d => (∀ i, d i ≤ 9) ∧ ((vS T m t s = none ∧ rS T m t s = none) ∨ ∃ v : Int, vS T m t s = some v ∧ 0 ≤ v ∧ rS T m t s = some (v * 1000000 - (cod d t (n + 1) : Int)) ∧ Grd T m t (n + 1) s d)) ?_ |>.elim fun f hf => ⟨f, fun s i => (hf s).1 i, fun s => (hf s).2⟩
    intro s
    rcases key s with ⟨h1, h2⟩ | ⟨v, k0, h1, h2, h3⟩
    · refine ⟨fun _ => 0, fun _ => Nat.zero_le _, Or.inl ?_⟩
      rw [vS_step T m t ht6, rS_step T m t ht6]
      exact ⟨h1, h2⟩
    · obtain ⟨hk, hkP, ⟨x, hx, hxv⟩, hlt⟩ := id h2
      rcases hc (s - k0 * tP T t) with ⟨g1, -⟩ | ⟨v2, g1, g2, g3, g4⟩
      · rw [hx] at g1; cases g1
      · refine ⟨fun i => if i = t then k0 else c (s - k0 * tP T t) i, fun i => ?_, Or.inr ⟨v, ?_, ?_, ?_, ?_⟩⟩
        · by_cases hi : i = t
          · simp only [if_pos hi]; have := nS_le T hT m t ht6; omega
          · simp only [if_neg hi]; exact hc9 _ i
        · rw [vS_step T m t ht6]; exact h1
        · rw [hx] at g1
          cases g1
          have hxv' : x + (wN (tW T t) (tL T t) k0 : Int) = v := hxv
          omega
        · rw [rS_step T m t ht6]
          refine Eq.trans h3 ?_
          congr 1
          have e : ∀ n' t', t < t' → cod (fun i => if i = t then k0 else c (s - k0 * tP T t) i) t' n' = cod (c (s - k0 * tP T t)) t' n' := by
            intro n'
            induction n' with
            | zero => intro t' _; rfl
            | succ n' ih' => intro t' h'; simp only [cod]; rw [ih' (t' + 1) (by omega), if_neg (by omega)]
          simp only [cod, if_true]
          rw [e n (t + 1) (by omega)]
          push_cast
          omega
        · have e : ∀ n' t' s', t < t' → Grd T m t' n' s' (c (s - k0 * tP T t)) → Grd T m t' n' s' (fun i => if i = t then k0 else c (s - k0 * tP T t) i) := by
            intro n'
            induction n' with
            | zero => intro t' s' _ h'; exact h'
            | succ n' ih' =>
              intro t' s' h' hg
              simp only [Grd] at hg ⊢
              rw [if_neg (by omega)]
              exact ⟨hg.1, ih' (t' + 1) _ (by omega) hg.2⟩
          simp only [Grd, if_true]
          exact ⟨⟨v, by rw [vS_step T m t ht6]; exact h1, h2⟩, e n (t + 1) _ (by omega) g4⟩
