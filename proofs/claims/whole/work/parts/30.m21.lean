/-! the class: the least sums by their remainders -/
def cdv (d p : Nat) : Nat → Nat
  | 0 => 1
  | x + 1 => if x = 0 then 1 else if d % (x + 1) = 0 ∧ p % (x + 1) = 0 then x + 1 else cdv d p x
theorem bez_ex {d p : Nat} (hd : 0 < d) : ∃ a, a < d ∧ a * p % d = Nat.gcd d p % d := by
  obtain ⟨s, h1, h2⟩ := RR_gcd (P := fun _ => p) hd p d ⟨0, Re_0 _ 6, by rw [Nat.zero_mod, Nat.mod_self]⟩ ⟨p, Re_one 6 0 (by omega), rfl⟩
  obtain ⟨c, hc⟩ := Re_dvd (h := p) 6 s (fun _ _ => Nat.dvd_refl p) h1
  refine ⟨c % d, Nat.mod_lt _ hd, ?_⟩
  rw [Nat.mul_mod, Nat.mod_mod, ← Nat.mul_mod, Nat.mul_comm, ← hc, h2]
theorem cdv_gcd {d p : Nat} (hd : 0 < d) : ∀ x, Nat.gcd d p ≤ x → cdv d p x = Nat.gcd d p := by
  have hg : 0 < Nat.gcd d p := Nat.gcd_pos_of_pos_left p hd
  intro x
  induction x with
  | zero => intro h; omega
  | succ x ih =>
    intro h
    rw [cdv]
    by_cases h0 : x = 0
    · rw [if_pos h0]; omega
    · rw [if_neg h0]
      by_cases h1 : d % (x + 1) = 0 ∧ p % (x + 1) = 0
      · rw [if_pos h1]
        have h2 := Nat.dvd_gcd (Nat.dvd_of_mod_eq_zero h1.1) (Nat.dvd_of_mod_eq_zero h1.2)
        have h3 := Nat.le_of_dvd hg h2
        omega
      · rw [if_neg h1]
        refine ih ?_
        have h4 : Nat.gcd d p ≠ x + 1 := fun q => h1 ⟨by rw [← q]; exact Nat.mod_eq_zero_of_dvd (Nat.gcd_dvd_left d p), by rw [← q]; exact Nat.mod_eq_zero_of_dvd (Nat.gcd_dvd_right d p)⟩
        omega
theorem cdv_ok {d p : Nat} (hd : 0 < d ∧ d ≤ 99) (hp : 0 < p ∧ p ≤ 99) : 0 < cdv d p d ∧ ∃ a, a < d ∧ a * p % d = cdv d p d % d := by
  rw [cdv_gcd hd.1 d (Nat.le_of_dvd hd.1 (Nat.gcd_dvd_left d p))]
  exact ⟨Nat.gcd_pos_of_pos_left p hd.1, bez_ex hd.1⟩
/-- each remainder lies on the ring of its start -/
theorem ring_ex {d p r : Nat} (hd : 0 < d ∧ d ≤ 99) (hp : 0 < p ∧ p ≤ 99) (hr : r < d) : ∃ a, a < d ∧ (r % cdv d p d + a * p) % d = r := by
  obtain ⟨hg, w, hw, hwp⟩ := cdv_ok hd hp
  generalize cdv d p d = g at *
  refine ⟨(r / g * w) % d, Nat.mod_lt _ hd.1, ?_⟩
  have e1 : ((r / g * w) % d * p) % d = (r / g * g) % d := by
    rw [Nat.mul_mod, Nat.mod_mod, ← Nat.mul_mod, Nat.mul_assoc, Nat.mul_mod, hwp, ← Nat.mul_mod]
  rw [Nat.add_mod, e1, ← Nat.add_mod, Nat.mul_comm (r / g) g, Nat.mod_add_div]
  exact Nat.mod_eq_of_lt hr
theorem lo_X0_cd {d p : Nat} (hd : d ≤ 99) (hp : p ≤ 99) {Q : Int32 → Prop} : ∀ x, x ≤ d → Q (iI (cdv d p x : Int)) → wl_X0_commonDivisor_2 (iI (d : Int)) (iI (p : Int)) (wx_X0_commonDivisor_2 Q) Q (x + 1) (iI (x : Int)) := by
  intro x
  induction x with
  | zero =>
    intro _ hq
    show wb_X0_commonDivisor_2 _ _ _ _ _ _
    unfold wb_X0_commonDivisor_2
    exact br_le ((0 : Nat) : Int) 1 (tN (by omega)) rfl (fun _ => hq) (fun q => absurd q (by omega))
  | succ x ih =>
    intro hx hq
    show wb_X0_commonDivisor_2 _ _ _ _ _ _
    unfold wb_X0_commonDivisor_2
    rw [cdv] at hq
    by_cases h0 : x = 0
    · rw [if_pos h0] at hq
      exact br_le ((x + 1 : Nat) : Int) 1 (tN (by omega)) rfl (fun _ => hq) (fun q => absurd q (by omega))
    · rw [if_neg h0] at hq
      have em : iI ((x + 1 : Nat) : Int) + (-1) = iI (x : Int) := by rw [iI_m1]; congr 1; omega
      have hne : ¬ iI ((x + 1 : Nat) : Int) = 0 := fun q => by
        have := congrArg Int32.toInt q
        rw [tN (by omega)] at this
        have e0 : (0 : Int32).toInt = 0 := rfl
        omega
      refine br_le ((x + 1 : Nat) : Int) 1 (tN (by omega)) rfl (fun q => absurd q (by omega)) (fun _ => ⟨hne, ?_⟩)
      rw [iI_rem (by omega) (by omega) (by omega), iI_rem (by omega) (by omega) (by omega)]
      have m1 := Nat.mod_lt d (show 0 < x + 1 by omega)
      have m2 := Nat.mod_lt p (show 0 < x + 1 by omega)
      refine br_ne ((d % (x + 1) : Nat) : Int) 0 (tN (by omega)) rfl (fun q => nm_r em (ih (by omega) ?_)) (fun q => ⟨hne, br_ne ((p % (x + 1) : Nat) : Int) 0 (tN (by omega)) rfl (fun q2 => nm_r em (ih (by omega) ?_)) (fun q2 => ?_)⟩)
      · rw [if_neg (fun g => q (by omega))] at hq; exact hq
      · rw [if_neg (fun g => q2 (by omega))] at hq; exact hq
      · rw [if_pos ⟨by omega, by omega⟩] at hq; exact hq
/-- each least sum is one that comes out, with its remainder -/
def Snd (P : Nat → Nat) (n d : Nat) (L : Nat → Nat) : Prop := ∀ r, r < d → L r ≤ 1000000 ∧ (L r < 1000000 → Re P n (L r) ∧ L r % d = r)
theorem lo_X0_goRound {P : Nat → Nat} {n d st : Nat} (hd : 0 < d ∧ d ≤ 99) (hp : P n ≤ 99) {L0 : Nat → Nat} {K : (Nat → Int32) → Prop}
    (hK : ∀ (least : Nat → Int32) (L : Nat → Nat), aN least L d → Snd P (n + 1) d L → (∀ r, r < d → L r ≤ L0 r) → (∀ a i, a ≤ i → i ≤ 2 * d → L ((st + i * P n) % d) ≤ L0 ((st + a * P n) % d) + (i - a) * P n) → K least) :
    ∀ r i, i + r = 2 * d → ∀ (least : Nat → Int32) (L : Nat → Nat), aN least L d → Snd P (n + 1) d L → (∀ r, r < d → L r ≤ L0 r) → (∀ a j, a ≤ j → j ≤ i → L ((st + j * P n) % d) ≤ L0 ((st + a * P n) % d) + (j - a) * P n) → wl_X0_goRound_13 (iI (P n : Int)) (iI (d : Int)) K (r + 1) (iI (((st + i * P n) % d : Nat) : Int)) (iI (i : Int)) least := by
  have e2 : (2 : Int32) * iI (d : Int) = iI (((2 * d : Nat)) : Int) := by
    rw [show (2 : Int32) * iI (d : Int) = iI (2 * (d : Int)) from iI_mul 2 _]; congr 1
  intro r
  induction r with
  | zero =>
    intro i hi least L h1 h2 h3 h4
    show wb_X0_goRound_13 _ _ _ _ _ _ _
    unfold wb_X0_goRound_13
    rw [e2]
    have : i = 2 * d := by omega
    subst this
    exact br_le ((2 * d : Nat) : Int) ((2 * d : Nat) : Int) (tN (by omega)) (tN (by omega)) (fun _ => hK least L h1 h2 h3 h4) (fun q => absurd q (by omega))
  | succ r ih =>
    intro i hi least L h1 h2 h3 h4
    show wb_X0_goRound_13 _ _ _ _ _ _ _
    unfold wb_X0_goRound_13
    rw [e2]
    have hne : ¬ iI (d : Int) = 0 := fun q => by
      have := congrArg Int32.toInt q
      rw [tN (by omega)] at this
      have e0 : (0 : Int32).toInt = 0 := rfl
      omega
    have ha := Nat.mod_lt (st + i * P n) hd.1
    have hn := Nat.mod_lt (st + (i + 1) * P n) hd.1
    have en : ((st + i * P n) % d + P n) % d = (st + (i + 1) * P n) % d := by
      rw [Nat.mod_add_mod, Nat.succ_mul, Nat.add_assoc]
    generalize hat : (st + i * P n) % d = at' at *
    generalize hnx : (st + (i + 1) * P n) % d = nx at *
    refine br_le ((2 * d : Nat) : Int) (i : Int) (tN (by omega)) (tN (by omega)) (fun q => absurd q (by omega)) (fun _ => ⟨hne, ?_⟩)
    have es : (iI (at' : Int) + iI (P n : Int)) - (iI (at' : Int) + iI (P n : Int)) / iI (d : Int) * iI (d : Int) = iI (nx : Int) := by
      rw [iI_add, ← Int.natCast_add, iI_rem (by omega) hd.1 (by omega), en]
    refine nm_r es ⟨iI_in (by omega) (by omega) (by omega), iI_in (by omega) (by omega) (by omega), iI_in (by omega) (by omega) (by omega), ?_⟩
    rw [iI_clN (by omega), iI_clN (by omega), h1 at' ha, h1 nx hn]
    have b1 := h2 at' ha
    have b2 := h2 nx hn
    have em : (if iI (L at' : Int) + iI (P n : Int) < iI (L nx : Int) then iI (L at' : Int) + iI (P n : Int) else iI (L nx : Int)) = iI ((min (L nx) (L at' + P n) : Nat) : Int) := by
      rw [iI_add]
      refine (iI_min (by omega) (by omega) (by omega) (by omega)).trans ?_
      congr 1; omega
    refine nm_r rfl (nm_r (e' := iI ((i + 1 : Nat) : Int)) (iI_add _ 1) ?_)
    have hle : ∀ r, r < d → upN L nx (min (L nx) (L at' + P n)) r ≤ L r := by
      intro r _
      unfold upN
      by_cases e : r = nx
      · rw [if_pos e, e]; omega
      · rw [if_neg e]; exact Nat.le_refl _
    have hI := ih (i + 1) (by omega) _ (upN L nx (min (L nx) (L at' + P n))) (aN_up h1 em) ?_ (fun r hr => Nat.le_trans (hle r hr) (h3 r hr)) ?_
    · rw [hnx] at hI; exact hI
    · intro r hr
      unfold upN
      by_cases e : r = nx
      · rw [if_pos e]
        refine ⟨by omega, fun hlt => ?_⟩
        by_cases hm : L nx ≤ L at' + P n
        · rw [Nat.min_eq_left hm, e]; exact b2.2 (by omega)
        · rw [Nat.min_eq_right (by omega)]
          have b3 := b1.2 (by omega)
          refine ⟨Re_add (Nat.lt_succ_self n) b3.1, ?_⟩
          rw [Nat.add_mod, b3.2, e, ← en, ← hat]
          rw [Nat.add_mod ((st + i * P n) % d) (P n) d, Nat.mod_mod]
      · rw [if_neg e]; exact h2 r hr
    · intro a j haj hj
      by_cases e : j = i + 1
      · subst e
        rw [hnx]
        have e4 : upN L nx (min (L nx) (L at' + P n)) nx = min (L nx) (L at' + P n) := if_pos rfl
        rw [e4]
        by_cases ea : a = i + 1
        · subst ea
          rw [hnx, Nat.sub_self, Nat.zero_mul]
          have := h3 nx hn
          omega
        · have g := h4 a i (by omega) (Nat.le_refl i)
          rw [hat] at g
          rw [show i + 1 - a = (i - a) + 1 by omega, Nat.succ_mul]
          omega
      · exact Nat.le_trans (hle _ (Nat.mod_lt _ hd.1)) (h4 a j haj (by omega))
theorem sp_X0_goRound {P : Nat → Nat} {n d st : Nat} (hd : 0 < d ∧ d ≤ 99) (hp : P n ≤ 99) (hst : st < d) {L0 : Nat → Nat} {least : Nat → Int32} (h1 : aN least L0 d) (h2 : Snd P (n + 1) d L0) {Q : (Nat → Int32) → Prop}
    (hQ : ∀ (least : Nat → Int32) (L : Nat → Nat), aN least L d → Snd P (n + 1) d L → (∀ r, r < d → L r ≤ L0 r) → (∀ a i, a ≤ i → i ≤ 2 * d → L ((st + i * P n) % d) ≤ L0 ((st + a * P n) % d) + (i - a) * P n) → Q least) : wp_X0_goRound (iI (st : Int)) (iI (P n : Int)) (iI (d : Int)) least Q := by
  unfold wp_X0_goRound
  refine br_lt 0 (d : Int) rfl (tN (by omega)) (fun _ => ⟨2 * d + 1, ?_⟩) (fun q => absurd q (by omega))
  have := lo_X0_goRound (st := st) hd hp (L0 := L0) (K := fun k => wx_X0_goRound_13 k Q) hQ (2 * d) 0 (by omega) least L0 h1 h2 (fun r _ => Nat.le_refl _) (fun a j ha hj => by
    have e1 : j = 0 := by omega
    have e2 : a = 0 := by omega
    rw [e1, e2]; exact Nat.le_add_right _ _)
  have e0 : (st + 0 * P n) % d = st := by rw [Nat.zero_mul, Nat.add_zero, Nat.mod_eq_of_lt hst]
  rw [e0] at this
  exact this
/-- the least sums by the first n prices -/
def MI (P : Nat → Nat) (n d : Nat) (L : Nat → Nat) : Prop := Snd P n d L ∧ ∀ s, Re P n s → L (s % d) ≤ s
theorem sp_X0_addPrice {P : Nat → Nat} {n d : Nat} (hd : 0 < d ∧ d ≤ 99) (hp : 0 < P n ∧ P n ≤ 99) {L0 : Nat → Nat} {least : Nat → Int32} (h1 : aN least L0 d) (h2 : MI P n d L0) {Q : (Nat → Int32) → Prop}
    (hQ : ∀ (least : Nat → Int32) (L : Nat → Nat), aN least L d → MI P (n + 1) d L → Q least) : wp_X0_addPrice (iI (P n : Int)) (iI (d : Int)) least Q := by
  unfold wp_X0_addPrice
  have hg := (cdv_ok hd hp).1
  have hgd : cdv d (P n) d ≤ d := by
    have : ∀ x, 0 < x → cdv d (P n) x ≤ x := by
      intro x
      induction x with
      | zero => intro h; omega
      | succ x ih =>
        intro _
        rw [cdv]
        by_cases h0 : x = 0
        · rw [if_pos h0]; omega
        · rw [if_neg h0]
          split
          · exact Nat.le_refl _
          · have := ih (by omega); omega
    exact this d hd.1
  have hre : ∀ r, r < d → ∃ a, a < d ∧ (r % cdv d (P n) d + a * P n) % d = r := fun r hr => ring_ex hd hp hr
  refine ⟨d + 1, lo_X0_cd hd.2 hp.2 d (Nat.le_refl d) ?_⟩
  generalize cdv d (P n) d = g at *
  refine ⟨g + 1, ?_⟩
  have loop : ∀ r st, st + r = g → ∀ (least : Nat → Int32) (L : Nat → Nat), aN least L d → Snd P (n + 1) d L → (∀ r, r < d → L r ≤ L0 r) → (∀ r, r < d → r % g < st → ∀ j, j < d → L ((r + j * P n) % d) ≤ L0 r + j * P n) → wl_X0_addPrice_11 (iI (P n : Int)) (iI (g : Int)) (iI (d : Int)) (fun k => wx_X0_addPrice_11 k Q) (r + 1) (iI (st : Int)) least := by
    intro r
    induction r with
    | zero =>
      intro st hst least L g1 g2 g3 g4
      show wb_X0_addPrice_11 _ _ _ _ _ _ _
      unfold wb_X0_addPrice_11
      refine br_le (g : Int) (st : Int) (tN (by omega)) (tN (by omega)) (fun _ => hQ least L g1 ⟨g2, ?_⟩) (fun q => absurd q (by omega))
      intro s hs
      obtain ⟨j, a1, a2⟩ := hs
      have b1 := h2.2 _ a2
      have b2 := g4 ((s - j * P n) % d) (Nat.mod_lt _ hd.1) (by have := Nat.mod_lt ((s - j * P n) % d) hg; omega) (j % d) (Nat.mod_lt _ hd.1)
      have e1 : ((s - j * P n) % d + (j % d) * P n) % d = s % d := by
        rw [Nat.mod_add_mod, Nat.add_mod, Nat.mul_mod, Nat.mod_mod, ← Nat.mul_mod, ← Nat.add_mod, Nat.sub_add_cancel a1]
      rw [e1] at b2
      have b3 : j % d * P n ≤ j * P n := Nat.mul_le_mul_right _ (Nat.mod_le _ _)
      omega
    | succ r ih =>
      intro st hst least L g1 g2 g3 g4
      show wb_X0_addPrice_11 _ _ _ _ _ _ _
      unfold wb_X0_addPrice_11
      refine br_le (g : Int) (st : Int) (tN (by omega)) (tN (by omega)) (fun q => absurd q (by omega)) (fun _ => ?_)
      refine sp_X0_goRound (P := P) (n := n) hd hp.2 (by omega) g1 g2 (fun least' L' k1 k2 k3 k4 => nm_r (e' := iI ((st + 1 : Nat) : Int)) (iI_add _ 1) (ih (st + 1) (by omega) least' L' k1 k2 (fun r hr => Nat.le_trans (k3 r hr) (g3 r hr)) ?_))
      intro r hr hrs j hj
      by_cases e : r % g = st
      · obtain ⟨a, a1, a2⟩ := hre r hr
        rw [e] at a2
        have q := k4 a (a + j) (by omega) (by omega)
        rw [a2, Nat.add_sub_cancel_left] at q
        have e5 : (st + (a + j) * P n) % d = (r + j * P n) % d := by
          rw [Nat.add_mul, ← Nat.add_assoc, ← Nat.mod_add_mod, a2]
        rw [e5] at q
        have := g3 r hr
        omega
      · exact Nat.le_trans (k3 _ (Nat.mod_lt _ hd.1)) (g4 r hr (by omega) j hj)
  refine loop g 0 (by omega) least L0 h1 ?_ (fun r _ => Nat.le_refl _) (fun r _ h => absurd h (by omega))
  intro r hr
  exact ⟨(h2.1 r hr).1, fun h => ⟨Re_mono ((h2.1 r hr).2 h).1, ((h2.1 r hr).2 h).2⟩⟩
/-! measure -/
theorem sp_X0_measure {T : Tn} {price : Nat → Int32} (hT : Tok T) (hp : aN price (tP T) 6) {least : Nat → Int32} {Q : Int32 → (Nat → Int32) → Prop}
    (hQ0 : (∀ i, i < 6 → tP T i = 0) → ∀ least, Q (iI ((0 : Nat) : Int)) least)
    (hQ : ∀ (d i : Nat) (least : Nat → Int32) (L : Nat → Nat), (0 < d ∧ d ≤ 99) → i < 6 → tP T i = d → aN least L d → MI (tP T) 6 d L → Q (iI (d : Int)) least) : wp_X0_measure price least Q := by
  unfold wp_X0_measure
  have loop1 : ∀ (K : Int32 → Prop), ((∀ i, i < 6 → tP T i = 0) → K (iI ((0 : Nat) : Int))) → (∀ d i : Nat, (0 < d ∧ d ≤ 99) → i < 6 → tP T i = d → K (iI (d : Int))) → ∀ (r x : Nat), x + r = 6 → ∀ d : Nat, ((d = 0 ∧ ∀ i, i < x → tP T i = 0) ∨ ((0 < d ∧ d ≤ 99) ∧ ∃ i, i < 6 ∧ tP T i = d)) → wl_X0_measure_7 price K (r + 1) (iI (x : Int)) (iI (d : Int)) := by
    intro K k0 k1 r
    induction r with
    | zero =>
      intro x hx d h
      show wb_X0_measure_7 _ _ _ _ _
      unfold wb_X0_measure_7
      refine br_le 6 (x : Int) rfl (tN (by omega)) (fun _ => ?_) (fun q => absurd q (by omega))
      rcases h with ⟨h1, h2⟩ | ⟨h1, i, h2, h3⟩
      · rw [h1]; exact k0 (fun i hi => h2 i (by omega))
      · exact k1 d i h1 h2 h3
    | succ r ih =>
      intro x hx d h
      have e3 : iI (x : Int) + 1 = iI ((x + 1 : Nat) : Int) := iI_add _ 1
      have hb := hT.1 x (by omega)
      show wb_X0_measure_7 _ _ _ _ _
      unfold wb_X0_measure_7
      refine br_le 6 (x : Int) rfl (tN (by omega)) (fun q => absurd q (by omega)) (fun _ => ?_)
      rcases h with ⟨h1, h2⟩ | h1
      · subst h1
        refine br_ne ((0 : Nat) : Int) 0 (tN (by omega)) rfl (fun q => absurd rfl q) (fun _ => sp_X5_isSold_t hT hp (by omega) (bz_e (fun q => nm_r e3 (ih (x + 1) (by omega) 0 (Or.inl ⟨rfl, ?_⟩))) (fun q => ⟨iI_in (by omega) (by omega) (by omega), nm_r (e' := iI (tP T x : Int)) (by rw [iI_clN (by omega)]; exact hp x (by omega)) (nm_r e3 (ih (x + 1) (by omega) (tP T x) (Or.inr ⟨⟨q, hb.1⟩, x, by omega, rfl⟩)))⟩)))
        intro i hi
        by_cases e : i = x
        · rw [e]; omega
        · exact h2 i (by omega)
      · refine br_ne (d : Int) 0 (tN (by omega)) rfl (fun _ => nm_r e3 (ih (x + 1) (by omega) d (Or.inr h1))) (fun q => absurd q (by omega))
  refine ⟨7, loop1 (fun k => wx_X0_measure_7 price k least Q) (fun h0 => ?_) (fun d i hd hi hdi => ?_) 6 0 (by omega) 0 (Or.inl ⟨rfl, fun i h => absurd h (by omega)⟩)⟩
  · show wx_X0_measure_7 _ _ _ _
    unfold wx_X0_measure_7
    show wp_J7_fill_53178 _ _ _ _
    unfold wp_J7_fill_53178
    refine nm_r rfl ⟨7, ?_⟩
    have loop2 : ∀ (r x : Nat), x + r = 6 → ∀ least, wl_X0_measure_62 price (iI ((0 : Nat) : Int)) (fun k => wx_X0_measure_62 (iI ((0 : Nat) : Int)) k Q) (r + 1) (iI (x : Int)) least := by
      intro r
      induction r with
      | zero =>
        intro x hx least
        show wb_X0_measure_62 _ _ _ _ _ _
        unfold wb_X0_measure_62
        exact br_le 6 (x : Int) rfl (tN (by omega)) (fun _ => hQ0 h0 least) (fun q => absurd q (by omega))
      | succ r ih =>
        intro x hx least
        show wb_X0_measure_62 _ _ _ _ _ _
        unfold wb_X0_measure_62
        refine br_le 6 (x : Int) rfl (tN (by omega)) (fun q => absurd q (by omega)) (fun _ => sp_X5_isSold_t hT hp (by omega) (bz_e (fun q => nm_r (e' := iI ((x + 1 : Nat) : Int)) (iI_add _ 1) (ih (x + 1) (by omega) least)) (fun q => ?_)))
        have := h0 x (by omega)
        omega
    exact loop2 6 0 (by omega) _
  · show wx_X0_measure_7 _ _ _ _
    unfold wx_X0_measure_7
    show wp_J7_fill_53178 _ _ _ _
    unfold wp_J7_fill_53178
    refine nm_r rfl ⟨7, ?_⟩
    have loop2 : ∀ (r x : Nat), x + r = 6 → ∀ least L, aN least L d → MI (tP T) x d L → wl_X0_measure_62 price (iI (d : Int)) (fun k => wx_X0_measure_62 (iI (d : Int)) k Q) (r + 1) (iI (x : Int)) least := by
      intro r
      induction r with
      | zero =>
        intro x hx least L g1 g2
        show wb_X0_measure_62 _ _ _ _ _ _
        unfold wb_X0_measure_62
        have : x = 6 := by omega
        subst this
        exact br_le 6 ((6 : Nat) : Int) rfl (tN (by omega)) (fun _ => hQ d i least L hd hi hdi g1 g2) (fun q => absurd q (by omega))
      | succ r ih =>
        intro x hx least L g1 g2
        have e3 : iI (x : Int) + 1 = iI ((x + 1 : Nat) : Int) := iI_add _ 1
        have hb := hT.1 x (by omega)
        show wb_X0_measure_62 _ _ _ _ _ _
        unfold wb_X0_measure_62
        refine br_le 6 (x : Int) rfl (tN (by omega)) (fun q => absurd q (by omega)) (fun _ => sp_X5_isSold_t hT hp (by omega) (bz_e (fun q => nm_r e3 (ih (x + 1) (by omega) least L g1 ?_)) (fun q => ⟨iI_in (by omega) (by omega) (by omega), ?_⟩)))
        · have hz : tP T x = 0 := by omega
          exact ⟨fun r hr => ⟨(g2.1 r hr).1, fun h => ⟨Re_mono ((g2.1 r hr).2 h).1, ((g2.1 r hr).2 h).2⟩⟩, fun s hs => g2.2 s ((Re_z hz).mp hs)⟩
        · rw [iI_clN (by omega), hp x (by omega)]
          exact sp_X0_addPrice (P := tP T) (n := x) hd ⟨q, hb.1⟩ g1 g2 (fun least' L' k1 k2 => nm_r e3 (ih (x + 1) (by omega) least' L' k1 k2))
    refine loop2 6 0 (by omega) _ (upN (fun _ => 1000000) 0 0) ?_ ⟨?_, ?_⟩
    · intro j hj
      show upd _ _ _ j = _
      unfold upd upN
      by_cases e : j = 0
      · rw [if_pos e]; subst e; rfl
      · rw [if_neg e]
        show (if j = 0 then (0 : Int32) else (if j < 99 then (1000000 : Int32) else least j)) = _
        rw [if_neg e, if_pos (by omega)]; rfl
    · intro r hr
      unfold upN
      by_cases e : r = 0
      · rw [if_pos e]
        exact ⟨by omega, fun _ => ⟨rfl, by rw [e]; exact Nat.zero_mod d⟩⟩
      · rw [if_neg e]
        exact ⟨Nat.le_refl _, fun h => absurd h (Nat.lt_irrefl _)⟩
    · intro s hs
      have hs : s = 0 := hs
      rw [hs, Nat.zero_mod]
      exact Nat.le_refl 0
