/-! endless -/
/-- the greatest sum below n that is stuck -/
noncomputable def lst (P : Nat → Nat) : Nat → Int
  | 0 => -6
  | n + 1 => if cB (Re P 6 n) = 0 then (n : Int) else lst P n
noncomputable def a_endless (T : Tn) (w : Int) : Int := if 0 ≤ w ∧ w ≤ 1 then (if cpt (tP T) 6 = 1 then (if w = 0 then lst (tP T) 10000 else (cnP (fun s => ¬ Re (tP T) 6 s) 10000 : Int)) else -7) else -2
theorem cB_0 {p : Prop} : cB p = 0 ↔ ¬ p := by
  refine ⟨fun h q => ?_, cB_f⟩
  rw [cB_t q] at h; cases h
theorem lst_no {P : Nat → Nat} : ∀ n, (∀ s, s < n → Re P 6 s) → lst P n = -6 := by
  intro n
  induction n with
  | zero => intro _; rfl
  | succ n ih =>
    intro h
    rw [lst, if_neg (fun q => cB_0.mp q (h n (by omega)))]
    exact ih (fun s hs => h s (by omega))
theorem lst_is {P : Nat → Nat} {g : Nat} (hg : ¬ Re P 6 g) : ∀ n, g < n → (∀ s, g < s → s < n → Re P 6 s) → lst P n = (g : Int) := by
  intro n
  induction n with
  | zero => intro h; omega
  | succ n ih =>
    intro h h2
    rw [lst]
    by_cases e : g = n
    · subst e; rw [if_pos (cB_0.mpr hg)]
    · rw [if_neg (fun q => cB_0.mp q (h2 n (by omega) (by omega)))]
      exact ih (by omega) (fun s h3 h4 => h2 s h3 (by omega))
def gs_ (L : Nat → Nat) (d : Nat) : Nat → Int
  | 0 => -1
  | n + 1 => max (gs_ L d n) ((L n : Int) - (d : Int))
theorem gs_b (L : Nat → Nat) (d : Nat) : ∀ n, (-1 ≤ gs_ L d n ∧ ∀ r, r < n → (L r : Int) - (d : Int) ≤ gs_ L d n) ∧ (gs_ L d n = -1 ∨ ∃ r, r < n ∧ gs_ L d n = (L r : Int) - (d : Int)) := by
  intro n
  induction n with
  | zero => exact ⟨⟨Int.le_refl _, fun r h => absurd h (by omega)⟩, Or.inl rfl⟩
  | succ n ih =>
    rw [gs_]
    refine ⟨⟨by omega, fun r hr => ?_⟩, ?_⟩
    · by_cases e : r = n
      · rw [e]; omega
      · have := ih.1.2 r (by omega); omega
    · by_cases h : gs_ L d n ≤ (L n : Int) - (d : Int)
      · exact Or.inr ⟨n, by omega, by omega⟩
      · rcases ih.2 with q | ⟨r, h1, h2⟩
        · exact Or.inl (by omega)
        · exact Or.inr ⟨r, by omega, by omega⟩
def sm_ (F : Nat → Nat) : Nat → Nat
  | 0 => 0
  | n + 1 => sm_ F n + F n
theorem sm_congr {F G : Nat → Nat} : ∀ n, (∀ r, r < n → F r = G r) → sm_ F n = sm_ G n := by
  intro n
  induction n with
  | zero => intro _; rfl
  | succ n ih => intro h; rw [sm_, sm_, ih (fun r hr => h r (by omega)), h n (by omega)]
theorem sm_one {F G : Nat → Nat} {b e : Nat} : ∀ n, b < n → (∀ r, r < n → r ≠ b → G r = F r) → G b = F b + e → sm_ G n = sm_ F n + e := by
  intro n
  induction n with
  | zero => intro h; omega
  | succ n ih =>
    intro hb h1 h2
    rw [sm_, sm_]
    by_cases q : b = n
    · subst q
      rw [sm_congr b (fun r hr => h1 r (by omega) (by omega)), h2]
      omega
    · rw [ih (by omega) (fun r hr hn => h1 r (by omega) hn) h2, h1 n (by omega) (fun g => q g.symm)]
      omega
theorem sm_zero : ∀ n, sm_ (fun _ => 0) n = 0 := by
  intro n
  induction n with
  | zero => rfl
  | succ n ih => rw [sm_, ih]
/-- all remainders are reached: sums are stuck below their least -/
def FL (P : Nat → Nat) (d : Nat) (L : Nat → Nat) : Prop := (∀ r, r < d → L r % d = r ∧ L r ≤ 9702) ∧ ∀ s, ¬ Re P 6 s ↔ s < L (s % d)
theorem FL_of {P : Nat → Nat} (hP : ∀ i, i < 6 → P i ≤ 99) {d i : Nat} (hd : 0 < d ∧ d ≤ 99) (hi : i < 6) (hdi : P i = d) {L : Nat → Nat} (h : MI P 6 d L) (hc : cpt P 6 = 1) : FL P d L := by
  have h1 : ∀ r, r < d → L r ≤ 9702 := by
    intro r hr
    obtain ⟨s, h1, h2⟩ := cpt_1 hd.1 hc r hr
    obtain ⟨u, h3, h4, h5⟩ := Re_small hP hd h1
    have := h.2 u h3
    rw [h4, h2] at this
    omega
  refine ⟨fun r hr => ⟨((h.1 r hr).2 (by have := h1 r hr; omega)).2, h1 r hr⟩, fun s => ⟨fun hs => ?_, fun hs hr => ?_⟩⟩
  · apply Classical.byContradiction
    intro hlt
    have hm := Nat.mod_lt s hd.1
    have hL := (h.1 _ hm).2 (by have := h1 _ hm; omega)
    have h5 : (s - L (s % d)) % d = 0 := Nat.sub_mod_eq_zero_of_mod_eq hL.2.symm
    obtain ⟨c, hc2⟩ := Nat.dvd_of_mod_eq_zero h5
    have h6 := Re_sum 6 _ _ hL.1 (Re_mul (Re_one (P := P) 6 i hi) c)
    rw [hdi, Nat.mul_comm c d, ← hc2, show L (s % d) + (s - L (s % d)) = s by omega] at h6
    exact hs h6
  · have := h.2 s hr
    omega
theorem FL_gap {P : Nat → Nat} {d : Nat} (hd : 0 < d) {L : Nat → Nat} (h : FL P d L) {s : Nat} (hs : s < L (s % d)) : s + d ≤ L (s % d) := by
  have hm := Nat.mod_lt s hd
  have h5 : (L (s % d) - s) % d = 0 := Nat.sub_mod_eq_zero_of_mod_eq (h.1 _ hm).1
  have := Nat.le_of_dvd (by omega) (Nat.dvd_of_mod_eq_zero h5)
  omega
theorem FL_lst {P : Nat → Nat} {d : Nat} (hd : 0 < d) {L : Nat → Nat} (h : FL P d L) : lst P 10000 = if 0 ≤ gs_ L d d then gs_ L d d else -6 := by
  have hg := gs_b L d d
  have top : ∀ s, ¬ Re P 6 s → (s : Int) ≤ gs_ L d d := by
    intro s hs
    have h1 := (h.2 s).mp hs
    have h2 := FL_gap hd h h1
    have h3 := hg.1.2 (s % d) (Nat.mod_lt s hd)
    omega
  by_cases h0 : 0 ≤ gs_ L d d
  · rw [if_pos h0]
    rcases hg.2 with q | ⟨r, hr, q⟩
    · omega
    · have hL := h.1 r hr
      have e : L r - d + d = L r := by omega
      have em : (L r - d) % d = r := by rw [← Nat.add_mod_right, e]; exact hL.1
      have hst : ¬ Re P 6 (L r - d) := (h.2 _).mpr (by rw [em]; omega)
      rw [lst_is (g := L r - d) hst 10000 (by omega) (fun s hs _ => Classical.not_not.mp (fun q2 => by have := top s q2; omega))]
      omega
  · rw [if_neg h0]
    exact lst_no 10000 (fun s _ => Classical.not_not.mp (fun q => by have := top s q; omega))
theorem FL_cnt {P : Nat → Nat} {d : Nat} (hd : 0 < d) {L : Nat → Nat} (h : FL P d L) : cnP (fun s => ¬ Re P 6 s) 10000 = sm_ (fun r => L r / d) d := by
  have all : ∀ s, cnP (fun s => ¬ Re P 6 s) s = sm_ (fun r => min (L r / d) (s / d + if r < s % d then 1 else 0)) d := by
    intro s
    induction s with
    | zero =>
      refine (sm_zero d).symm.trans (sm_congr d (fun r _ => ?_))
      rw [Nat.zero_div, Nat.zero_mod, if_neg (by omega)]
      exact (Nat.min_zero _).symm
    | succ s ih =>
      rw [cnP, ih]
      have hb := Nat.mod_lt s hd
      have hs := Nat.div_add_mod s d
      generalize ha : s / d = a at *
      generalize hbb : s % d = b at *
      have hL := h.1 b hb
      have hLe := Nat.div_add_mod (L b) d
      rw [hL.1] at hLe
      have hst : (¬ Re P 6 s) ↔ a < L b / d := by
        rw [h.2 s, hbb]
        constructor
        · intro q
          have : d * a < d * (L b / d) := by omega
          exact Nat.lt_of_mul_lt_mul_left this
        · intro q
          have : d * a < d * (L b / d) := Nat.mul_lt_mul_of_pos_left q hd
          omega
      have hcb : cB (¬ Re P 6 s) = if a < L b / d then 1 else 0 := by
        by_cases q : a < L b / d
        · rw [if_pos q]; exact cB_t (hst.mpr q)
        · rw [if_neg q]; exact cB_f (fun g => q (hst.mp g))
      rw [hcb]
      by_cases e : b + 1 < d
      · have e1 : (s + 1) / d = a ∧ (s + 1) % d = b + 1 := by
          have q : s + 1 = (b + 1) + d * a := by omega
          rw [q, Nat.add_mul_div_left _ _ hd, Nat.add_mul_mod_self_left, Nat.div_eq_of_lt e, Nat.mod_eq_of_lt e]
          exact ⟨Nat.zero_add _, rfl⟩
        rw [e1.1, e1.2]
        refine (sm_one d hb (fun r hr hn => ?_) ?_).symm
        · by_cases g : r < b
          · rw [if_pos g, if_pos (by omega)]
          · rw [if_neg g, if_neg (by omega)]
        · rw [if_pos (by omega), if_neg (by omega)]
          by_cases q : a < L b / d
          · rw [if_pos q]; omega
          · rw [if_neg q]; omega
      · have e1 : (s + 1) / d = a + 1 ∧ (s + 1) % d = 0 := by
          have q : s + 1 = 0 + d * (a + 1) := by rw [Nat.mul_add, Nat.mul_one]; omega
          rw [q, Nat.add_mul_div_left _ _ hd, Nat.add_mul_mod_self_left, Nat.zero_div, Nat.zero_mod]
          exact ⟨Nat.zero_add _, rfl⟩
        rw [e1.1, e1.2]
        refine (sm_one d hb (fun r hr hn => ?_) ?_).symm
        · rw [if_neg (by omega), if_pos (by omega)]
        · rw [if_neg (by omega), if_neg (by omega)]
          by_cases q : a < L b / d
          · rw [if_pos q]; omega
          · rw [if_neg q]; omega
  rw [all]
  refine sm_congr d (fun r hr => ?_)
  have h1 : L r / d ≤ 10000 / d := Nat.div_le_div_right (by have := (h.1 r hr).2; omega)
  omega
theorem sp_X0_leaves {d : Nat} (hd : d ≤ 99) {least : Nat → Int32} {L : Nat → Nat} (h : aN least L d) (hL : ∀ r, r < d → L r ≤ 1000000) {Q : Int32 → Prop} (h1 : ∀ r, r < d → L r = 1000000 → Q 1) (h0 : 0 < d → (∀ r, r < d → L r < 1000000) → Q 0) (hz : d = 0 → Q 1) : wp_X0_leavesGapsForEver (iI (d : Int)) least Q := by
  unfold wp_X0_leavesGapsForEver
  refine ⟨d + 1, ?_⟩
  have loop : ∀ (r x : Nat), x + r = d → (∀ j, j < x → L j < 1000000) → wl_X0_leavesGapsForEver_2 (iI (d : Int)) least (wx_X0_leavesGapsForEver_2 (iI (d : Int)) Q) Q (r + 1) (iI (x : Int)) := by
    intro r
    induction r with
    | zero =>
      intro x hx hj
      show wb_X0_leavesGapsForEver_2 _ _ _ _ _ _
      unfold wb_X0_leavesGapsForEver_2
      refine br_le (d : Int) (x : Int) (tN (by omega)) (tN (by omega)) (fun _ => ?_) (fun q => absurd q (by omega))
      show wx_X0_leavesGapsForEver_2 _ _
      unfold wx_X0_leavesGapsForEver_2
      exact br_ne (d : Int) 0 (tN (by omega)) rfl (fun q => h0 (by omega) (fun r hr => hj r (by omega))) (fun q => hz (by omega))
    | succ r ih =>
      intro x hx hj
      show wb_X0_leavesGapsForEver_2 _ _ _ _ _ _
      unfold wb_X0_leavesGapsForEver_2
      have hb := hL x (by omega)
      refine br_le (d : Int) (x : Int) (tN (by omega)) (tN (by omega)) (fun q => absurd q (by omega)) (fun _ => ⟨iI_in (by omega) (by omega) (by omega), ?_⟩)
      rw [iI_clN (by omega), h x (by omega)]
      refine br_ne (L x : Int) 1000000 (tN (by omega)) rfl (fun q => nm_r (e' := iI ((x + 1 : Nat) : Int)) (iI_add _ 1) (ih (x + 1) (by omega) (fun j hj2 => ?_))) (fun q => h1 x (by omega) (by omega))
      by_cases e : j = x
      · rw [e]; omega
      · exact hj j (by omega)
  exact loop d 0 (by omega) (fun j hj => absurd hj (by omega))
theorem sp_X0_greatest {d : Nat} (hd : d ≤ 99) {least : Nat → Int32} {L : Nat → Nat} (h : aN least L d) (hL : ∀ r, r < d → L r ≤ 1000000) {Q : Int32 → Prop} (hQ : Q (iI (gs_ L d d))) : wp_X0_greatestStuck (iI (d : Int)) least Q := by
  unfold wp_X0_greatestStuck
  refine ⟨d + 1, ?_⟩
  have bd : ∀ n, n ≤ d → -1 ≤ gs_ L d n ∧ gs_ L d n ≤ 1000000 := by
    intro n hn
    have hg := gs_b L d n
    refine ⟨hg.1.1, ?_⟩
    rcases hg.2 with q | ⟨r, hr, q⟩
    · omega
    · have := hL r (by omega); omega
  have loop : ∀ (r x : Nat), x + r = d → wl_X0_greatestStuck_4 (iI (d : Int)) least (fun k => wx_X0_greatestStuck_4 k Q) (r + 1) (iI (gs_ L d x)) (iI (x : Int)) := by
    intro r
    induction r with
    | zero =>
      intro x hx
      show wb_X0_greatestStuck_4 _ _ _ _ _ _
      unfold wb_X0_greatestStuck_4
      refine br_le (d : Int) (x : Int) (tN (by omega)) (tN (by omega)) (fun _ => ?_) (fun q => absurd q (by omega))
      rw [show x = d by omega]; exact hQ
    | succ r ih =>
      intro x hx
      show wb_X0_greatestStuck_4 _ _ _ _ _ _
      unfold wb_X0_greatestStuck_4
      have hb := hL x (by omega)
      have hb2 := bd x (by omega)
      refine br_le (d : Int) (x : Int) (tN (by omega)) (tN (by omega)) (fun q => absurd q (by omega)) (fun _ => ⟨iI_in (by omega) (by omega) (by omega), ?_⟩)
      rw [iI_clN (by omega), h x (by omega), iI_sub]
      exact nm_r (iI_max (by omega) (by omega) (by omega) (by omega)) (nm_r (e' := iI ((x + 1 : Nat) : Int)) (iI_add _ 1) (ih (x + 1) (by omega)))
  exact loop d 0 (by omega)
theorem sp_X0_stuckSums {d : Nat} (hd : 0 < d ∧ d ≤ 99) {least : Nat → Int32} {L : Nat → Nat} (h : aN least L d) (hL : ∀ r, r < d → L r ≤ 1000000) {Q : Int32 → Prop} (hQ : Q (iI ((sm_ (fun r => L r / d) d : Nat) : Int))) : wp_X0_stuckSums (iI (d : Int)) least Q := by
  unfold wp_X0_stuckSums
  refine br_lt 0 (d : Int) rfl (tN (by omega)) (fun _ => ⟨d + 1, ?_⟩) (fun q => absurd q (by omega))
  have hne : ¬ iI (d : Int) = 0 := fun q => by
    have := congrArg Int32.toInt q
    rw [tN (by omega)] at this
    have e0 : (0 : Int32).toInt = 0 := rfl
    omega
  have loop : ∀ (r x : Nat), x + r = d → wl_X0_stuckSums_13 (iI (d : Int)) least (fun k => wx_X0_stuckSums_13 k Q) (r + 1) (iI ((sm_ (fun r => L r / d) x : Nat) : Int)) (iI (x : Int)) := by
    intro r
    induction r with
    | zero =>
      intro x hx
      show wb_X0_stuckSums_13 _ _ _ _ _ _
      unfold wb_X0_stuckSums_13
      refine br_le (d : Int) (x : Int) (tN (by omega)) (tN (by omega)) (fun _ => ?_) (fun q => absurd q (by omega))
      have e : x = d := by omega
      subst e; exact hQ
    | succ r ih =>
      intro x hx
      show wb_X0_stuckSums_13 _ _ _ _ _ _
      unfold wb_X0_stuckSums_13
      have hb := hL x (by omega)
      refine br_le (d : Int) (x : Int) (tN (by omega)) (tN (by omega)) (fun q => absurd q (by omega)) (fun _ => ⟨iI_in (by omega) (by omega) (by omega), hne, ?_⟩)
      rw [iI_clN (by omega), h x (by omega), iI_div (by omega) hd.1 (by omega), iI_add]
      exact nm_r rfl (nm_r (e' := iI ((x + 1 : Nat) : Int)) (iI_add _ 1) (ih (x + 1) (by omega)))
  exact loop d 0 (by omega)
theorem cpt_zero {P : Nat → Nat} : ∀ n, (∀ i, i < n → P i = 0) → cpt P n = 0 := by
  intro n
  induction n with
  | zero => intro _; rfl
  | succ n ih =>
    intro h
    rw [cpt, ih (fun i hi => h i (by omega)), h n (by omega)]
    rfl
theorem sp_X6_endless {T : Tn} {price least : Nat → Int32} (hT : Tok T) (hp : aN price (tP T) 6) {x dv : Int32} {Q : Int32 → Int32 → (Nat → Int32) → Prop} (hQ : ∀ dv least, Q (iI (a_endless T x.toInt)) dv least) : wp_X6_endless x dv least price Q := by
  unfold wp_X6_endless
  unfold a_endless at hQ
  refine sp_X6_within (bz_n (fun hx => ?_) (fun hx => ?_))
  · have hx : 0 ≤ x.toInt ∧ x.toInt ≤ 1 := hx
    simp only [if_pos hx] at hQ
    have hP : ∀ i, i < 6 → tP T i ≤ 99 := fun i hi => (hT.1 i hi).1
    refine sp_X0_measure hT hp (fun h0 least => ?_) (fun d i least L hd hi hdi hl hM => ?_)
    · have e : ¬ cpt (tP T) 6 = 1 := by rw [cpt_zero 6 h0]; decide
      simp only [if_neg e] at hQ
      exact sp_X0_leaves (d := 0) (L := fun _ => 0) (by omega) (fun j hj => absurd hj (by omega)) (fun j hj => absurd hj (by omega)) (fun r hr => absurd hr (by omega)) (fun h => absurd h (by omega)) (fun _ => ⟨fun q => absurd q (by decide), fun _ => hQ _ _⟩)
    · have hLb : ∀ r, r < d → L r ≤ 1000000 := fun r hr => (hM.1 r hr).1
      by_cases hc : cpt (tP T) 6 = 1
      · simp only [if_pos hc] at hQ
        have hF := FL_of hP hd hi hdi hM hc
        refine sp_X0_leaves hd.2 hl hLb (fun r hr q => absurd q (by have := (hF.1 r hr).2; omega)) (fun _ _ => ⟨fun _ => ?_, fun q => absurd rfl q⟩) (fun q => absurd q (by omega))
        refine br_ne x.toInt 1 rfl rfl (fun h1 => ?_) (fun h1 => ?_)
        · refine sp_X0_greatest hd.2 hl hLb ?_
          have e0 : x.toInt = 0 := by omega
          simp only [if_pos e0] at hQ
          rw [FL_lst hd.1 hF] at hQ
          have hg := gs_b L d d
          have hg2 : gs_ L d d ≤ 1000000 := by
            rcases hg.2 with q | ⟨r, hr, q⟩
            · omega
            · have := hLb r hr; omega
          refine br_le 0 (gs_ L d d) rfl (tI (by omega)) (fun g => ?_) (fun g => ?_)
          · rw [if_pos g] at hQ; exact hQ _ _
          · rw [if_neg (by omega)] at hQ; exact hQ _ _
        · refine sp_X0_stuckSums hd hl hLb ?_
          have e0 : ¬ x.toInt = 0 := by omega
          simp only [if_neg e0] at hQ
          rw [FL_cnt hd.1 hF] at hQ
          exact hQ _ _
      · simp only [if_neg hc] at hQ
        obtain ⟨h1, h2⟩ := cpt_n1 hi hdi hd.1 hc
        have e1 : L 1 = 1000000 := by
          have h3 := hM.1 1 h1
          apply Classical.byContradiction
          intro q
          have h4 := h3.2 (by omega)
          exact h2 _ h4.1 h4.2
        exact sp_X0_leaves hd.2 hl hLb (fun r hr q => ⟨fun q => absurd q (by decide), fun _ => hQ _ _⟩) (fun _ h => absurd (h 1 h1) (by omega)) (fun q => absurd q (by omega))
  · have hx : ¬ (0 ≤ x.toInt ∧ x.toInt ≤ 1) := hx
    simp only [if_neg hx] at hQ
    exact hQ _ _
/-! the reference -/
theorem sp_X7_commonPart {T : Tn} {price : Nat → Int32} (hT : Tok T) (hp : aN price (tP T) 6) {Q : Int32 → Prop} (hQ : cpt (tP T) 6 ≤ 99 → Q (iI (cpt (tP T) 6 : Int))) : wp_X7_commonPart price Q := by
  unfold wp_X7_commonPart
  refine ⟨7, ?_⟩
  have loop : ∀ (r n : Nat), n + r = 6 → cpt (tP T) n ≤ 99 → wl_X7_commonPart_4 price (fun k => wx_X7_commonPart_4 k Q) (r + 1) (iI (cpt (tP T) n : Int)) (iI (n : Int)) := by
    intro r
    induction r with
    | zero =>
      intro n hn hc
      show wb_X7_commonPart_4 _ _ _ _ _
      unfold wb_X7_commonPart_4
      refine br_le 6 (n : Int) rfl (tN (by omega)) (fun _ => ?_) (fun q => absurd q (by omega))
      have e : n = 6 := by omega
      subst e; exact hQ hc
    | succ r ih =>
      intro n hn hc
      have hb := hT.1 n (by omega)
      show wb_X7_commonPart_4 _ _ _ _ _
      unfold wb_X7_commonPart_4
      refine br_le 6 (n : Int) rfl (tN (by omega)) (fun q => absurd q (by omega)) (fun _ => ⟨iI_in (by omega) (by omega) (by omega), nm_r (e' := iI (tP T n : Int)) (by rw [iI_clN (by omega)]; exact hp n (by omega)) ?_⟩)
      have inner : ∀ x u, x ≤ 99 → u ≤ 99 → Nat.gcd u x = cpt (tP T) (n + 1) → ∃ k, wl_X7_commonPart_17 (fun k => wx_X7_commonPart_17 k (iI (n : Int)) (wl_X7_commonPart_4 price (fun k => wx_X7_commonPart_4 k Q) (r + 1))) k (iI (u : Int)) (iI (x : Int)) := by
        intro x
        induction x using Nat.strongRecOn with
        | ind x ihx =>
          intro u hx hu hg
          by_cases h0 : x = 0
          · subst h0
            refine ⟨1, ?_⟩
            show wb_X7_commonPart_17 _ _ _ _
            unfold wb_X7_commonPart_17
            refine br_eq ((0 : Nat) : Int) 0 (tN (by omega)) rfl (fun _ => ?_) (fun q => absurd rfl q)
            show wx_X7_commonPart_17 _ _ _
            unfold wx_X7_commonPart_17
            rw [Nat.gcd_zero_right] at hg
            rw [hg]
            exact nm_r (e' := iI ((n + 1 : Nat) : Int)) (iI_add _ 1) (ih (n + 1) (by omega) (by omega))
          · have hm := Nat.mod_lt u (show 0 < x by omega)
            obtain ⟨k, hk⟩ := ihx (u % x) hm x (by omega) hx (by rw [← hg, Nat.gcd_comm u x, Nat.gcd_rec x u, Nat.gcd_comm])
            refine ⟨k + 1, ?_⟩
            show wb_X7_commonPart_17 _ _ _ _
            unfold wb_X7_commonPart_17
            refine br_eq (x : Int) 0 (tN (by omega)) rfl (fun q => absurd q (by omega)) (fun _ => ⟨fun q => ?_, nm_r (iI_rem (by omega) (by omega) (by omega)) hk⟩)
            have := congrArg Int32.toInt q
            rw [tN (by omega)] at this
            have e0 : (0 : Int32).toInt = 0 := rfl
            omega
      exact inner (tP T n) (cpt (tP T) n) hb.1 hc rfl
  exact loop 6 0 (by omega) (Nat.zero_le _)
theorem sp_X7_endless {T : Tn} {price out : Nat → Int32} (hT : Tok T) (hp : aN price (tP T) 6) {x : Int32} {Q : Int32 → (Nat → Int32) → Prop} (hQ : ∀ out, Q (iI (a_endless T x.toInt)) out) : wp_X7_endless x out price Q := by
  unfold wp_X7_endless
  unfold a_endless at hQ
  refine sp_X7_in (bz_n (fun hx => ?_) (fun hx => ?_))
  · have hx : 0 ≤ x.toInt ∧ x.toInt ≤ 1 := hx
    simp only [if_pos hx] at hQ
    refine sp_X7_commonPart hT hp (fun hc99 => br_eq (cpt (tP T) 6 : Int) 1 (tN (by omega)) rfl (fun hc => ⟨10001, ?_⟩) (fun hc => ?_))
    · have hc : cpt (tP T) 6 = 1 := by omega
      simp only [if_pos hc] at hQ
      have inner : ∀ (s : Nat), s < 10000 → ∀ K : (Nat → Int32) → Prop, (∀ out : Nat → Int32, (∀ j, j ≤ s → out j = iI (cB (Re (tP T) 6 j) : Int)) → K out) → ∀ (r t : Nat), t + r = 6 → ∀ out : Nat → Int32, (∀ j, j < s → out j = iI (cB (Re (tP T) 6 j) : Int)) → out s = iI (cB (s = 0 ∨ ∃ i, i < t ∧ 0 < tP T i ∧ tP T i ≤ s ∧ Re (tP T) 6 (s - tP T i)) : Int) → wl_X7_endless_60 (iI (s : Int)) price K (r + 1) (iI (t : Int)) out := by
        intro s hs K hK r
        induction r with
        | zero =>
          intro t ht out h1 h2
          show wb_X7_endless_60 _ _ _ _ _ _
          unfold wb_X7_endless_60
          refine br_le 6 (t : Int) rfl (tN (by omega)) (fun _ => hK out (fun j hj => ?_)) (fun q => absurd q (by omega))
          by_cases e : j = s
          · have e6 : t = 6 := by omega
            subst e6
            rw [e, h2]
            congr 2
            exact congrArg cB (propext Re_iff.symm)
          · exact h1 j (by omega)
        | succ r ih =>
          intro t ht out h1 h2
          have e3 : iI (t : Int) + 1 = iI ((t + 1 : Nat) : Int) := iI_add _ 1
          have hb := hT.1 t (by omega)
          have hin : vp_in (iI (s : Int)) 10000 := iI_in (by omega) (by omega) (by omega)
          have hin6 : vp_in (iI (t : Int)) 6 := iI_in (by omega) (by omega) (by omega)
          have step : ∀ (v : Int32), v = iI (cB (s = 0 ∨ ∃ i, i < t + 1 ∧ 0 < tP T i ∧ tP T i ≤ s ∧ Re (tP T) 6 (s - tP T i)) : Int) → wl_X7_endless_60 (iI (s : Int)) price K (r + 1) (iI ((t + 1 : Nat) : Int)) (upd out s v) := by
            intro v hv
            refine ih (t + 1) (by omega) _ (fun j hj => ?_) ?_
            · unfold upd
              rw [if_neg (by omega)]; exact h1 j hj
            · unfold upd
              rw [if_pos rfl]; exact hv
          have no : ¬ (s = 0 ∨ ∃ i, i < t ∧ 0 < tP T i ∧ tP T i ≤ s ∧ Re (tP T) 6 (s - tP T i)) → ¬ (0 < tP T t ∧ tP T t ≤ s ∧ Re (tP T) 6 (s - tP T t)) → (0 : Int32) = iI (cB (s = 0 ∨ ∃ i, i < t + 1 ∧ 0 < tP T i ∧ tP T i ≤ s ∧ Re (tP T) 6 (s - tP T i)) : Int) := by
            intro q1 q2
            rw [cB_f]
            · rfl
            · rintro (g | ⟨i, g1, g2⟩)
              · exact q1 (Or.inl g)
              · by_cases e : i = t
                · subst e; exact q2 g2
                · exact q1 (Or.inr ⟨i, by omega, g2⟩)
          show wb_X7_endless_60 _ _ _ _ _ _
          unfold wb_X7_endless_60
          rw [iI_clN (by omega), iI_clN (by omega), hp t (by omega), h2, nar0, nar1]
          refine br_le 6 (t : Int) rfl (tN (by omega)) (fun q => absurd q (by omega)) (fun _ => ⟨hin, ?_⟩)
          by_cases hh : s = 0 ∨ ∃ i, i < t ∧ 0 < tP T i ∧ tP T i ≤ s ∧ Re (tP T) 6 (s - tP T i)
          · rw [cB_t hh]
            refine ⟨fun _ => ⟨hin, nm_r rfl (nm_r e3 (step 1 ?_))⟩, fun q => absurd (by decide) q⟩
            rw [cB_t]
            · rfl
            · rcases hh with g | ⟨i, g1, g2⟩
              · exact Or.inl g
              · exact Or.inr ⟨i, by omega, g2⟩
          · rw [cB_f hh]
            refine ⟨fun q => absurd (by decide) q, fun _ => ⟨hin6, br_le (tP T t : Int) 0 (tN (by omega)) rfl (fun q => ⟨hin, nm_r rfl (nm_r e3 (step 0 (no hh (fun g => by omega))))⟩) (fun q => ⟨hin6, br_lt (s : Int) (tP T t : Int) (tN (by omega)) (tN (by omega)) (fun q2 => ⟨hin, nm_r rfl (nm_r e3 (step 0 (no hh (fun g => by omega))))⟩) (fun q2 => ⟨hin6, ?_⟩)⟩)⟩⟩
            have es : iI (s : Int) - iI (tP T t : Int) = iI ((s - tP T t : Nat) : Int) := by rw [iI_sub]; congr 1; omega
            rw [es, iI_clN (by omega), h1 (s - tP T t) (by omega)]
            refine ⟨iI_in (by omega) (by omega) (by omega), ?_⟩
            by_cases hr : Re (tP T) 6 (s - tP T t)
            · rw [cB_t hr]
              refine ⟨fun q => absurd q (by decide), fun _ => ⟨hin, nm_r rfl (nm_r e3 (step 1 ?_))⟩⟩
              rw [cB_t]
              · rfl
              · exact Or.inr ⟨t, by omega, by omega, by omega, hr⟩
            · rw [cB_f hr]
              exact ⟨fun _ => ⟨hin, nm_r rfl (nm_r e3 (step 0 (no hh (fun g => hr g.2.2))))⟩, fun q => absurd rfl q⟩
      have loop : ∀ (r s : Nat), s + r = 10000 → ∀ out : Nat → Int32, (∀ j, j < s → out j = iI (cB (Re (tP T) 6 j) : Int)) → wl_X7_endless_32 price (fun k1 k2 k3 => wx_X7_endless_32 x k1 k2 k3 Q) (r + 1) (iI (lst (tP T) s)) (iI (cnP (fun s => ¬ Re (tP T) 6 s) s : Int)) (iI (s : Int)) out := by
        intro r
        induction r with
        | zero =>
          intro s hs out h1
          show wb_X7_endless_32 _ _ _ _ _ _ _
          unfold wb_X7_endless_32
          refine br_le 10000 (s : Int) rfl (tN (by omega)) (fun _ => ?_) (fun q => absurd q (by omega))
          show wx_X7_endless_32 _ _ _ _ _
          unfold wx_X7_endless_32
          have e : s = 10000 := by omega
          subst e
          refine br_ne x.toInt 0 rfl rfl (fun q => ?_) (fun q => ?_)
          · simp only [if_neg q] at hQ; exact hQ _
          · simp only [if_pos q] at hQ; exact hQ _
        | succ r ih =>
          intro s hs out h1
          have e3 : iI (s : Int) + 1 = iI ((s + 1 : Nat) : Int) := iI_add _ 1
          have hin : vp_in (iI (s : Int)) 10000 := iI_in (by omega) (by omega) (by omega)
          have next : ∀ out : Nat → Int32, (∀ j, j ≤ s → out j = iI (cB (Re (tP T) 6 j) : Int)) → wx_X7_endless_60 (iI (lst (tP T) s)) (iI (cnP (fun s => ¬ Re (tP T) 6 s) s : Int)) (iI (s : Int)) out (wl_X7_endless_32 price (fun k1 k2 k3 => wx_X7_endless_32 x k1 k2 k3 Q) (r + 1)) := by
            intro out h
            unfold wx_X7_endless_60
            have hI := ih (s + 1) (by omega) out (fun j hj => h j (by omega))
            rw [lst, cnP] at hI
            rw [iI_clN (by omega), h s (Nat.le_refl s)]
            by_cases hr : Re (tP T) 6 s
            · rw [if_neg (fun q => cB_0.mp q hr), cB_f (fun q => q hr)] at hI
              rw [cB_t hr]
              refine ⟨hin, fun q => absurd q (by decide), fun _ => ⟨hin, fun q => absurd q (by decide), fun _ => nm_r ?_ (nm_r e3 hI)⟩⟩
              exact iI_add _ 0
            · rw [if_pos (cB_0.mpr hr), cB_t hr] at hI
              rw [cB_f hr]
              refine ⟨hin, fun _ => ⟨hin, fun _ => nm_r ?_ (nm_r e3 hI), fun q => absurd rfl q⟩, fun q => absurd rfl q⟩
              exact iI_add _ 1
          show wb_X7_endless_32 _ _ _ _ _ _ _
          unfold wb_X7_endless_32
          rw [iI_clN (by omega), nar0, nar1]
          have same : ∀ v : Int32, ∀ j, j < s → upd out s v j = iI (cB (Re (tP T) 6 j) : Int) := by
            intro v j hj
            unfold upd
            rw [if_neg (by omega)]; exact h1 j hj
          refine br_le 10000 (s : Int) rfl (tN (by omega)) (fun q => absurd q (by omega)) (fun _ => br_ne (s : Int) 0 (tN (by omega)) rfl (fun q => ⟨hin, nm_r rfl ⟨7, inner s (by omega) _ next 6 0 (by omega) _ (same 0) ?_⟩⟩) (fun q => ⟨hin, nm_r rfl ⟨7, inner s (by omega) _ next 6 0 (by omega) _ (same 1) ?_⟩⟩))
          · unfold upd
            rw [if_pos rfl, cB_f]
            · rfl
            · rintro (g | ⟨i, g, -⟩)
              · omega
              · omega
          · unfold upd
            rw [if_pos rfl, cB_t (Or.inl (by omega))]
            rfl
      exact loop 10000 0 (by omega) out (fun j hj => absurd hj (by omega))
    · have hc : ¬ cpt (tP T) 6 = 1 := by omega
      simp only [if_neg hc] at hQ
      exact hQ _
  · have hx : ¬ (0 ≤ x.toInt ∧ x.toInt ≤ 1) := hx
    simp only [if_neg hx] at hQ
    exact hQ _
