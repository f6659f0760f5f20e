/-! together: the ways to part purses -/
def lea (S : Nat) : Nat := if S.testBit 0 = true then 0 else if S.testBit 1 = true then 1 else if S.testBit 2 = true then 2 else 3
/-- which group purse p goes in, in the number n -/
def wn (n p : Nat) : Nat := n / 4 ^ p % 4
def vst (pm n : Nat) : Nat → Bool
  | 0 => true
  | p + 1 => vst pm n p && (if pm.testBit p = true then (decide (wn n p ≤ p) && (wn n (wn n p) == wn n p) && pm.testBit (wn n p)) else wn n p == p)
def gmf (pm n p : Nat) : Nat → Nat
  | 0 => 0
  | q + 1 => gmf pm n p q ||| (if pm.testBit q = true ∧ wn n q = p then 2 ^ q else 0)
def gm (pm n p : Nat) : Nat := gmf pm n p 4
def grf (pm n : Nat) : Nat → Nat → List Nat
  | 0, _ => []
  | r + 1, p => if pm.testBit p = true ∧ wn n p = p then gm pm n p :: grf pm n r (p + 1) else grf pm n r (p + 1)
def grp (pm n : Nat) : List Nat := grf pm n 4 0
def ahf (pm n b : Nat) : Nat → Nat → Bool
  | 0, _ => false
  | r + 1, p => if gm pm n p = gm pm b p then ahf pm n b r (p + 1) else if gm pm n p = 0 then false else if gm pm b p = 0 then true else decide (gm pm n p < gm pm b p)
def chn : Nat → List Nat → Bool
  | S, [] => S == 0
  | S, T :: c => ((T &&& S) == T) && T.testBit (lea S) && chn (S - T) c
def key : Nat → List Nat → Nat
  | 0, _ => 0
  | _ + 1, [] => 0
  | k + 1, T :: c => T * 16 ^ k + key k c
def wkc : Nat → List Nat → Nat → Nat
  | _, [], p => p
  | S, T :: c, p => if T.testBit p = true then lea S else wkc (S - T) c p
def prt : Nat → Nat → List (List Nat)
  | 0, _ => []
  | k + 1, S => if S = 0 then [[]] else (List.range 16).flatMap (fun T => if (T &&& S) = T ∧ T.testBit (lea S) = true then (prt k (S - T)).map (fun c => T :: c) else [])
/-- the numbers that part the purses pm -/
def vt : Nat → List Nat
  | 0 => [228]
  | 1 => [228]
  | 2 => [228]
  | 3 => [224, 228]
  | 4 => [228]
  | 5 => [196, 228]
  | 6 => [212, 228]
  | 7 => [192, 196, 212, 224, 228]
  | 8 => [228]
  | 9 => [36, 228]
  | 10 => [100, 228]
  | 11 => [32, 36, 100, 224, 228]
  | 12 => [164, 228]
  | 13 => [4, 36, 164, 196, 228]
  | 14 => [84, 100, 164, 212, 228]
  | 15 => [0, 4, 20, 32, 36, 68, 84, 100, 160, 164, 192, 196, 212, 224, 228]
  | _ => []
theorem vt_mem : ∀ pm : Nat, pm < 16 → ∀ n : Nat, n < 256 → vst pm n 4 = true → (vt pm).contains n = true := by decide +kernel
theorem vt_ah : ∀ pm : Nat, pm < 16 → (vt pm).all (fun n => (vt pm).all (fun b => (ahf pm n b 4 0 == decide (key 4 (grp pm n) < key 4 (grp pm b))) && (!(key 4 (grp pm n) == key 4 (grp pm b)) || (grp pm n == grp pm b)))) = true := by decide +kernel
theorem vt_ch : ∀ pm : Nat, pm < 16 → (vt pm).all (fun n => chn pm (grp pm n) && (List.range 4).all (fun p => !(pm.testBit p) || (wkc pm (grp pm n) p == wn n p))) = true := by decide +kernel
theorem vt_pr : ∀ pm : Nat, pm < 16 → (prt 16 pm).all (fun c => (vt pm).any (fun n => decide (n < 256) && vst pm n 4 && (grp pm n == c))) = true := by decide +kernel
theorem sub_all : ∀ pm : Nat, pm < 16 → ∀ S : Nat, S < 16 → (List.range 16).all (fun T => !((S &&& pm) == S) || !((T &&& S) == T) || (((S - T) &&& pm) == S - T && (T &&& pm) == T)) = true := by decide +kernel
theorem sub_ok (pm : Nat) (hpm : pm < 16) (S : Nat) (hS : S < 16) (T : Nat) (hT : T < 16) (h1 : (S &&& pm) = S) (h2 : (T &&& S) = T) : ((S - T) &&& pm) = S - T ∧ (T &&& pm) = T := by
  have h := sub_all pm hpm S hS
  rw [List.all_eq_true] at h
  have h3 := h T (List.mem_range.mpr hT)
  rw [beq_iff_eq.mpr h1, beq_iff_eq.mpr h2] at h3
  simpa using h3
theorem tb_pos {T i : Nat} (h : T.testBit i = true) : 0 < T := by
  rcases Nat.eq_zero_or_pos T with q | q
  · rw [q, Nat.zero_testBit] at h; cases h
  · exact q
theorem sub_le {T S : Nat} (h : (T &&& S) = T) : T ≤ S := by
  rw [← h]; exact Nat.and_le_right
theorem chn_prt : ∀ (c : List Nat) (S k : Nat), S < 16 → S ≤ k → chn S c = true → c ∈ prt (k + 1) S := by
  intro c
  induction c with
  | nil =>
    intro S k _ _ h
    have e : S = 0 := by simpa [chn] using h
    rw [prt, if_pos e]
    exact List.mem_singleton.mpr rfl
  | cons T c ih =>
    intro S k hS hk h
    simp only [chn, Bool.and_eq_true, beq_iff_eq] at h
    obtain ⟨⟨h1, h2⟩, h3⟩ := h
    have p1 := tb_pos h2
    have p2 := sub_le h1
    rw [prt, if_neg (by omega), List.mem_flatMap]
    refine ⟨T, List.mem_range.mpr (by omega), ?_⟩
    rw [if_pos ⟨h1, h2⟩, List.mem_map]
    obtain ⟨k', rfl⟩ : ∃ k', k = k' + 1 := ⟨k - 1, by omega⟩
    exact ⟨c, ih (S - T) k' (by omega) (by omega) h3, rfl⟩
theorem key_lt : ∀ (c : List Nat) (S k : Nat), S < 16 → chn S c = true → key k c < 16 ^ k := by
  intro c
  induction c with
  | nil =>
    intro S k _ _
    cases k with
    | zero => exact Nat.one_pos
    | succ k => exact Nat.pow_pos (by decide)
  | cons T c ih =>
    intro S k hS h
    simp only [chn, Bool.and_eq_true, beq_iff_eq] at h
    obtain ⟨⟨h1, h2⟩, h3⟩ := h
    have p2 := sub_le h1
    cases k with
    | zero => exact Nat.one_pos
    | succ k =>
      have := ih (S - T) k (by omega) h3
      have h4 : T * 16 ^ k ≤ 15 * 16 ^ k := Nat.mul_le_mul_right _ (by omega)
      rw [key, Nat.pow_succ]
      omega
def oadd : Option Int → Option Int → Option Int
  | some a, some b => some (a + b)
  | _, _ => none
def sW (W : Nat → Option Int) : List Nat → Option Int
  | [] => some 0
  | T :: c => oadd (W T) (sW W c)
theorem oadd_some {a b : Option Int} {v : Int} (h : oadd a b = some v) : ∃ x y, a = some x ∧ b = some y ∧ v = x + y := by
  cases a with
  | none => cases h
  | some x =>
    cases b with
    | none => cases h
    | some y => exact ⟨x, y, rfl, rfl, (Option.some.inj h).symm⟩
/-- what is settled of the set S -/
def DPs (W : Nat → Option Int) (D : Nat → Int) (G : Nat → Nat) (S : Nat) : Prop := ((G S &&& S) = G S ∧ (G S).testBit (lea S) = true) ∧ (∃ w, W (G S) = some w ∧ D S = w + D (S - G S)) ∧ ∀ T w, (T &&& S) = T → T.testBit (lea S) = true → W T = some w → w + D (S - T) ≤ D S ∧ (w + D (S - T) = D S → G S ≤ T)
def gch (G : Nat → Nat) : Nat → List Nat → Prop
  | S, [] => S = 0
  | S, T :: c => T = G S ∧ gch G (S - T) c
theorem opt {W : Nat → Option Int} {D : Nat → Int} {G : Nat → Nat} {pm : Nat} (hpm : pm < 16) (h0 : D 0 = 0) (h : ∀ S, 0 < S → S < 16 → (S &&& pm) = S → DPs W D G S) : ∀ S, S < 16 → (S &&& pm) = S → ∃ c, chn S c = true ∧ gch G S c ∧ sW W c = some (D S) ∧ ∀ c', chn S c' = true → ∀ v, sW W c' = some v → v ≤ D S ∧ (v = D S → ∀ k, key k c ≤ key k c') := by
  intro S
  induction S using Nat.strongRecOn with
  | ind S ih =>
    intro hS hsub
    rcases Nat.eq_zero_or_pos S with e | hpos
    · subst e
      refine ⟨[], rfl, rfl, by rw [h0]; rfl, fun c' hc v hv => ?_⟩
      cases c' with
      | nil =>
        have : v = 0 := (Option.some.inj hv).symm
        rw [this, h0]
        exact ⟨Int.le_refl 0, fun _ k => Nat.le_refl _⟩
      | cons T c =>
        simp only [chn, Bool.and_eq_true, beq_iff_eq] at hc
        have p1 := tb_pos hc.1.2
        have p2 := sub_le hc.1.1
        omega
    · obtain ⟨⟨g1, g2⟩, ⟨w, g3, g4⟩, g5⟩ := h S hpos hS hsub
      have p1 := tb_pos g2
      have p2 := sub_le g1
      have p3 := sub_ok pm hpm S hS (G S) (by omega) hsub g1
      obtain ⟨c, c1, c2, c3, c4⟩ := ih (S - G S) (by omega) (by omega) p3.1
      refine ⟨G S :: c, ?_, ⟨rfl, c2⟩, ?_, ?_⟩
      · simp only [chn, Bool.and_eq_true, beq_iff_eq]
        exact ⟨⟨g1, g2⟩, c1⟩
      · rw [sW, g3, c3, g4]; rfl
      · intro c' hc v hv
        cases c' with
        | nil =>
          have : S = 0 := by simpa [chn] using hc
          omega
        | cons T c' =>
          simp only [chn, Bool.and_eq_true, beq_iff_eq] at hc
          obtain ⟨⟨k1, k2⟩, k3⟩ := hc
          have q1 := tb_pos k2
          have q2 := sub_le k1
          have q3 := sub_ok pm hpm S hS T (by omega) hsub k1
          obtain ⟨x, y, e1, e2, e3⟩ := oadd_some hv
          obtain ⟨d, -, -, -, d4⟩ := ih (S - T) (by omega) (by omega) q3.1
          have f1 := g5 T x k1 k2 e1
          have f2 := (d4 c' k3 y e2).1
          refine ⟨by omega, fun hveq k => ?_⟩
          have f3 := f1.2 (by omega)
          cases k with
          | zero => exact Nat.le_refl 0
          | succ k =>
            show G S * 16 ^ k + key k c ≤ T * 16 ^ k + key k c'
            by_cases hq : G S = T
            · have f4 := (c4 c' (by rw [hq]; exact k3) y e2).2 (by rw [hq]; omega) k
              rw [hq]; omega
            · have f5 := key_lt c (S - G S) k (by omega) c1
              have f6 : (G S + 1) * 16 ^ k ≤ T * 16 ^ k := Nat.mul_le_mul_right _ (by omega)
              rw [Nat.succ_mul] at f6
              omega
/-- the reference's search: the best number below n -/
def tgs (W : Nat → Option Int) (pm : Nat) : Nat → Int × Nat
  | 0 => (-1, 0)
  | n + 1 => if vst pm n 4 = true then (match sW W (grp pm n) with
    | none => tgs W pm n
    | some v => if (tgs W pm n).1 < v ∨ (v = (tgs W pm n).1 ∧ ahf pm n (tgs W pm n).2 4 0 = true) then (v, n) else tgs W pm n) else tgs W pm n
theorem ah_key {pm n b : Nat} (hpm : pm < 16) (hn : n < 256) (hb : b < 256) (vn : vst pm n 4 = true) (vb : vst pm b 4 = true) : (ahf pm n b 4 0 = true ↔ key 4 (grp pm n) < key 4 (grp pm b)) ∧ (key 4 (grp pm n) = key 4 (grp pm b) → grp pm n = grp pm b) := by
  have m1 : n ∈ vt pm := by simpa using vt_mem pm hpm n hn vn
  have m2 : b ∈ vt pm := by simpa using vt_mem pm hpm b hb vb
  have h := vt_ah pm hpm
  rw [List.all_eq_true] at h
  have h2 := h n m1
  rw [List.all_eq_true] at h2
  have h3 := h2 b m2
  rw [Bool.and_eq_true] at h3
  refine ⟨?_, fun e => ?_⟩
  · have h4 : ahf pm n b 4 0 = decide (key 4 (grp pm n) < key 4 (grp pm b)) := by simpa using h3.1
    rw [h4, decide_eq_true_iff]
  · have h4 := h3.2
    rw [Bool.or_eq_true] at h4
    rcases h4 with q | q
    · rw [e] at q; simp at q
    · simpa using q
theorem ch_wk {pm n : Nat} (hpm : pm < 16) (hn : n < 256) (vn : vst pm n 4 = true) : chn pm (grp pm n) = true ∧ ∀ p, p < 4 → pm.testBit p = true → wkc pm (grp pm n) p = wn n p := by
  have m1 : n ∈ vt pm := by simpa using vt_mem pm hpm n hn vn
  have h := vt_ch pm hpm
  rw [List.all_eq_true] at h
  have h2 := h n m1
  rw [Bool.and_eq_true, List.all_eq_true] at h2
  refine ⟨h2.1, fun p hp hb => ?_⟩
  have h3 := h2.2 p (List.mem_range.mpr hp)
  rw [hb] at h3
  simpa using h3
theorem ch_num {pm : Nat} (hpm : pm < 16) {c : List Nat} (h : chn pm c = true) : ∃ n, n < 256 ∧ vst pm n 4 = true ∧ grp pm n = c := by
  have h1 := vt_pr pm hpm
  rw [List.all_eq_true] at h1
  have h2 := h1 c (chn_prt c pm 15 hpm (by omega) h)
  rw [List.any_eq_true] at h2
  obtain ⟨n, -, h3⟩ := h2
  rw [Bool.and_eq_true, Bool.and_eq_true, decide_eq_true_iff] at h3
  exact ⟨n, h3.1.1, h3.1.2, by simpa using h3.2⟩
theorem sW_nn {W : Nat → Option Int} (hW : ∀ T w, W T = some w → 0 ≤ w) : ∀ c v, sW W c = some v → 0 ≤ v := by
  intro c
  induction c with
  | nil => intro v h; have : v = 0 := (Option.some.inj h).symm; omega
  | cons T c ih =>
    intro v h
    obtain ⟨x, y, e1, e2, e3⟩ := oadd_some h
    have := hW T x e1
    have := ih y e2
    omega
theorem tgs_inv {W : Nat → Option Int} (hW : ∀ T w, W T = some w → 0 ≤ w) {pm : Nat} (hpm : pm < 16) : ∀ n, n ≤ 256 → ((tgs W pm n).1 = -1 ∧ ∀ n', n' < n → vst pm n' 4 = true → sW W (grp pm n') = none) ∨ (((tgs W pm n).2 < n ∧ vst pm (tgs W pm n).2 4 = true ∧ sW W (grp pm (tgs W pm n).2) = some (tgs W pm n).1) ∧ ∀ n', n' < n → vst pm n' 4 = true → ∀ v, sW W (grp pm n') = some v → v ≤ (tgs W pm n).1 ∧ (v = (tgs W pm n).1 → key 4 (grp pm (tgs W pm n).2) ≤ key 4 (grp pm n'))) := by
  intro n
  induction n with
  | zero => intro _; exact Or.inl ⟨rfl, fun n' h => absurd h (by omega)⟩
  | succ n ih =>
    intro hn
    have hI := ih (by omega)
    rw [tgs]
    by_cases hv : vst pm n 4 = true
    · rw [if_pos hv]
      cases hs : sW W (grp pm n) with
      | none =>
        rcases hI with ⟨h1, h2⟩ | ⟨⟨h1, h2, h3⟩, h4⟩
        · refine Or.inl ⟨h1, fun n' hn' hv' => ?_⟩
          by_cases e : n' = n
          · rw [e]; exact hs
          · exact h2 n' (by omega) hv'
        · refine Or.inr ⟨⟨Nat.lt_succ_of_lt h1, h2, h3⟩, fun n' hn' hv' v hs' => ?_⟩
          by_cases e : n' = n
          · rw [e, hs] at hs'; cases hs'
          · exact h4 n' (by omega) hv' v hs'
      | some v =>
        have hv0 := sW_nn hW _ _ hs
        show _ ∨ _
        rcases hI with ⟨h1, h2⟩ | ⟨⟨h1, h2, h3⟩, h4⟩
        · refine Or.inr ?_
          simp only []
          rw [if_pos (Or.inl (by omega))]
          refine ⟨⟨by omega, hv, hs⟩, fun n' hn' hv' v' hs' => ?_⟩
          by_cases e : n' = n
          · rw [e, hs] at hs'; cases hs'
            exact ⟨Int.le_refl _, fun _ => by rw [e]; exact Nat.le_refl _⟩
          · rw [h2 n' (by omega) hv'] at hs'; cases hs'
        · refine Or.inr ?_
          simp only []
          have hk := ah_key hpm (show n < 256 by omega) (show (tgs W pm n).2 < 256 by omega) hv h2
          by_cases hc : (tgs W pm n).1 < v ∨ (v = (tgs W pm n).1 ∧ ahf pm n (tgs W pm n).2 4 0 = true)
          · rw [if_pos hc]
            refine ⟨⟨by omega, hv, hs⟩, fun n' hn' hv' v' hs' => ?_⟩
            by_cases e : n' = n
            · rw [e, hs] at hs'; cases hs'
              exact ⟨Int.le_refl _, fun _ => by rw [e]; exact Nat.le_refl _⟩
            · have g := h4 n' (by omega) hv' v' hs'
              rcases hc with q | ⟨q1, q2⟩
              · exact ⟨by show v' ≤ v; omega, fun e2 => by have e2 : v' = v := e2; omega⟩
              · have q3 := hk.1.mp q2
                exact ⟨by show v' ≤ v; omega, fun e2 => by
                  have e2 : v' = v := e2
                  have := g.2 (by omega)
                  show key 4 (grp pm n) ≤ _
                  omega⟩
          · rw [if_neg hc]
            refine ⟨⟨by omega, h2, h3⟩, fun n' hn' hv' v' hs' => ?_⟩
            by_cases e : n' = n
            · rw [e, hs] at hs'; cases hs'
              have q1 : ¬ (tgs W pm n).1 < v := fun q => hc (Or.inl q)
              refine ⟨by omega, fun e2 => ?_⟩
              have q2 : ¬ ahf pm n (tgs W pm n).2 4 0 = true := fun q => hc (Or.inr ⟨e2, q⟩)
              rw [hk.1] at q2
              rw [e]; omega
            · exact h4 n' (by omega) hv' v' hs'
    · rw [if_neg hv]
      rcases hI with ⟨h1, h2⟩ | ⟨⟨h1, h2, h3⟩, h4⟩
      · refine Or.inl ⟨h1, fun n' hn' hv' => ?_⟩
        by_cases e : n' = n
        · rw [e] at hv'; exact absurd hv' hv
        · exact h2 n' (by omega) hv'
      · refine Or.inr ⟨⟨by omega, h2, h3⟩, fun n' hn' hv' v hs' => ?_⟩
        by_cases e : n' = n
        · rw [e] at hv'; exact absurd hv' hv
        · exact h4 n' (by omega) hv' v hs'
/-- both find the same parting -/
theorem tgs_opt {W : Nat → Option Int} (hW : ∀ T w, W T = some w → 0 ≤ w) {D : Nat → Int} {G : Nat → Nat} {pm : Nat} (hpm : pm < 16) (h0 : D 0 = 0) (h : ∀ S, 0 < S → S < 16 → (S &&& pm) = S → DPs W D G S) : ∃ c, gch G pm c ∧ c.length ≤ 4 ∧ D pm = (tgs W pm 256).1 ∧ ∀ p, p < 4 → pm.testBit p = true → wkc pm c p = wn (tgs W pm 256).2 p := by
  obtain ⟨c, c1, c2, c3, c4⟩ := opt hpm h0 h pm hpm (Nat.and_self pm)
  obtain ⟨n, n1, n2, n3⟩ := ch_num hpm c1
  have len : ∀ r p, (grf pm n r p).length ≤ r := by
    intro r
    induction r with
    | zero => intro p; exact Nat.le_refl 0
    | succ r ih =>
      intro p
      rw [grf]
      split
      · have := ih (p + 1); rw [List.length_cons]; omega
      · have := ih (p + 1); omega
  have hl : c.length ≤ 4 := by rw [← n3]; exact len 4 0
  rcases tgs_inv hW hpm 256 (Nat.le_refl _) with ⟨-, h2⟩ | ⟨⟨h1, h2, h3⟩, h4⟩
  · have := h2 n n1 n2
    rw [n3, c3] at this; cases this
  · have hw := ch_wk hpm h1 h2
    have g1 := h4 n n1 n2 (D pm) (by rw [n3]; exact c3)
    have g2 := c4 _ hw.1 _ h3
    have e : D pm = (tgs W pm 256).1 := by omega
    refine ⟨c, c2, hl, e, ?_⟩
    have g3 := g1.2 e
    have g4 := g2.2 e.symm 4
    rw [n3] at g3
    have g5 := (ah_key hpm h1 n1 h2 n2).2 (by rw [n3]; omega)
    rw [n3] at g5
    rw [← g5]
    exact hw.2
