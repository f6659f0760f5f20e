/-! together: the reference -/
theorem wn_t : ∀ n : Nat, n < 256 → ∀ p : Nat, p < 4 → ((iI (n : Int) >>> (((2 : Int32) * iI (p : Int)) &&& 31)) &&& (3 : Int32)) = iI (wn n p : Int) := by decide +kernel
theorem wn_lt (n p : Nat) : wn n p < 4 := Nat.mod_lt _ (by decide)
theorem or_z : ∀ a : Nat, a < 16 → (iI (a : Int) ||| (0 : Int32)) = iI (a : Int) := by decide +kernel
theorem bit_v : ∀ m : Nat, m < 16 → ∀ t : Nat, t < 4 → ((iI (m : Int) >>> (iI (t : Int) &&& 31)) &&& (1 : Int32)) = iI ((if m.testBit t = true then 1 else 0 : Nat) : Int) := by decide +kernel
theorem gcn_pos : ∀ m : Nat, m < 16 → ∀ t : Nat, t < 4 → m.testBit t = true → 0 < gcn m 4 := by decide +kernel
def WN (n : Nat) (w : Nat → Int32) : Prop := ∀ p, p < 4 → w p = iI (wn n p : Int)
theorem sp_X7_pk {T : Tn} {purse : Nat → Int32} (hT : Tok T) (hp : pN purse T) {p : Nat} (h4 : p < 4) {Q : Int32 → Prop} (h0 : ¬ (pmk T).testBit p = true → Q 0) (h1 : (pmk T).testBit p = true → Q 1) : wp_X7_isThere (iI (p : Int)) purse Q := by
  refine sp_X7_pO hT hp ?_
  rw [tN (by omega)]
  by_cases h : pO T (p : Int) = true
  · rw [bz_t h]; exact h1 ((pO_pk T h4).mp h)
  · rw [bz_f h]; exact h0 (fun q => h ((pO_pk T h4).mpr q))
theorem sp_X7_layGroups {T : Tn} {purse wi : Nat → Int32} (hT : Tok T) (hp : pN purse T) {n : Nat} (hn : n < 256) {Q : Int32 → (Nat → Int32) → Prop} (h0 : ∀ wi, ¬ vst (pmk T) n 4 = true → Q 0 wi) (h1 : ∀ wi, WN n wi → vst (pmk T) n 4 = true → Q 1 wi) : wp_X7_layGroups (iI (n : Int)) purse wi Q := by
  unfold wp_X7_layGroups
  refine ⟨5, ?_⟩
  have loop : ∀ (r p : Nat), p + r = 4 → ∀ (x : Int32) (wi : Nat → Int32), (∀ q, q < p → wi q = iI (wn n q : Int)) → ((x = 0 ∧ ¬ vst (pmk T) n p = true) ∨ (x = 1 ∧ vst (pmk T) n p = true)) → wl_X7_layGroups_4 (iI (n : Int)) purse (fun a b => wx_X7_layGroups_4 a b Q) (r + 1) x (iI (p : Int)) wi := by
    intro r
    induction r with
    | zero =>
      intro p hp4 x wi hw hx
      show wb_X7_layGroups_4 _ _ _ _ _ _ _
      unfold wb_X7_layGroups_4
      refine br_le 4 (p : Int) rfl (tN (by omega)) (fun _ => ?_) (fun q => absurd q (by omega))
      show wx_X7_layGroups_4 _ _ _
      unfold wx_X7_layGroups_4
      have e : p = 4 := by omega
      subst e
      rcases hx with ⟨e1, e2⟩ | ⟨e1, e2⟩
      · rw [e1]; exact ⟨rfl, h0 wi e2⟩
      · rw [e1]; exact ⟨rfl, h1 wi hw e2⟩
    | succ r ih =>
      intro p hp4 x wi hw hx
      have e3 : iI (p : Int) + 1 = iI ((p + 1 : Nat) : Int) := iI_add _ 1
      have hin : vp_in (iI (p : Int)) 4 := iI_in (by omega) (by omega) (by omega)
      have hwl := wn_lt n p
      show wb_X7_layGroups_4 _ _ _ _ _ _ _
      unfold wb_X7_layGroups_4
      rw [wn_t n hn p (by omega), iI_clN (by omega)]
      refine br_le 4 (p : Int) rfl (tN (by omega)) (fun q => absurd q (by omega)) (fun _ => ⟨hin, ?_⟩)
      have hw' : ∀ q, q < p + 1 → upd wi p (iI (wn n p : Int)) q = iI (wn n q : Int) := by
        intro q hq
        unfold upd
        by_cases e : q = p
        · rw [if_pos e, e]
        · rw [if_neg e]; exact hw q (by omega)
      refine nm_r rfl ?_
      generalize upd wi p (iI (wn n p : Int)) = wi' at *
      have fin0 : ¬ vst (pmk T) n (p + 1) = true → wl_X7_layGroups_4 (iI (n : Int)) purse (fun a b => wx_X7_layGroups_4 a b Q) (r + 1) 0 (iI ((p + 1 : Nat) : Int)) wi' := fun h => ih (p + 1) (by omega) 0 wi' hw' (Or.inl ⟨rfl, h⟩)
      have fin1 : vst (pmk T) n (p + 1) = true → wl_X7_layGroups_4 (iI (n : Int)) purse (fun a b => wx_X7_layGroups_4 a b Q) (r + 1) 1 (iI ((p + 1 : Nat) : Int)) wi' := fun h => ih (p + 1) (by omega) 1 wi' hw' (Or.inr ⟨rfl, h⟩)
      rw [vst, Bool.and_eq_true] at fin0 fin1
      rcases hx with ⟨e1, e2⟩ | ⟨e1, e2⟩
      · rw [e1]
        exact ⟨fun _ => nm_r e3 (fin0 (fun g => e2 g.1)), fun q => absurd rfl q⟩
      · rw [e1]
        refine ⟨fun q => absurd q (by decide), fun _ => sp_X7_pk hT hp (by omega) (fun hb => ⟨fun _ => ⟨hin, ?_⟩, fun q => absurd rfl q⟩) (fun hb => ⟨fun q => absurd q (by decide), fun _ => ⟨hin, ?_⟩⟩)⟩
        · rw [if_neg hb, beq_iff_eq] at fin0 fin1
          rw [hw' p (by omega)]
          exact br_ne (wn n p : Int) (p : Int) (tN (by omega)) (tN (by omega)) (fun q => nm_r e3 (fin0 (fun g => q (by omega)))) (fun q => nm_r e3 (fin1 ⟨e2, by omega⟩))
        · rw [if_pos hb, Bool.and_eq_true, Bool.and_eq_true, decide_eq_true_iff, beq_iff_eq] at fin0 fin1
          rw [hw' p (by omega)]
          refine br_lt (p : Int) (wn n p : Int) (tN (by omega)) (tN (by omega)) (fun q => nm_r e3 (fin0 (fun g => by have := g.2.1.1; omega))) (fun q => ⟨hin, iI_in (by omega) (by omega) (by omega), hin, ?_⟩)
          have hw2 := wn_lt n (wn n p)
          rw [iI_clN (by omega), hw' (wn n p) (by omega)]
          refine br_ne (wn n (wn n p) : Int) (wn n p : Int) (tN (by omega)) (tN (by omega)) (fun q2 => nm_r e3 (fin0 (fun g => q2 (by have := g.2.1.2; omega)))) (fun q2 => ⟨hin, sp_X7_pk hT hp (by omega) (fun hb2 => ⟨fun _ => nm_r e3 (fin0 (fun g => hb2 g.2.2)), fun q3 => absurd rfl q3⟩) (fun hb2 => ⟨fun q3 => absurd q3 (by decide), fun _ => nm_r e3 (fin1 ⟨e2, ⟨by omega, by omega⟩, hb2⟩)⟩)⟩)
  exact loop 4 0 (by omega) 1 wi (fun q hq => absurd hq (by omega)) (Or.inr ⟨rfl, rfl⟩)
theorem gmf_lt (pm n p : Nat) : ∀ q, q ≤ 4 → gmf pm n p q < 16 := by
  intro q
  induction q with
  | zero => intro _; exact (by decide : (0 : Nat) < 16)
  | succ q ih =>
    intro hq
    rw [gmf]
    split
    · exact (or_t _ (ih (by omega)) q (by omega)).2
    · rw [Nat.or_zero]; exact ih (by omega)
theorem gm_lt (pm n p : Nat) : gm pm n p < 16 := gmf_lt pm n p 4 (Nat.le_refl 4)
theorem sp_X7_groupOf {T : Tn} {purse wi : Nat → Int32} (hT : Tok T) (hp : pN purse T) {n p : Nat} (h4 : p < 4) (hw : WN n wi) {Q : Int32 → Prop} (hQ : Q (iI (gm (pmk T) n p : Int))) : wp_X7_groupOf (iI (p : Int)) purse wi Q := by
  unfold wp_X7_groupOf
  refine ⟨5, ?_⟩
  have loop : ∀ (r q : Nat), q + r = 4 → wl_X7_groupOf_4 (iI (p : Int)) purse wi (fun k => wx_X7_groupOf_4 k Q) (r + 1) (iI (gmf (pmk T) n p q : Int)) (iI (q : Int)) := by
    intro r
    induction r with
    | zero =>
      intro q hq
      show wb_X7_groupOf_4 _ _ _ _ _ _ _
      unfold wb_X7_groupOf_4
      refine br_le 4 (q : Int) rfl (tN (by omega)) (fun _ => ?_) (fun h => absurd h (by omega))
      have e : q = 4 := by omega
      subst e
      exact hQ
    | succ r ih =>
      intro q hq
      have e3 : iI (q : Int) + 1 = iI ((q + 1 : Nat) : Int) := iI_add _ 1
      have hl := gmf_lt (pmk T) n p q (by omega)
      have hwl := wn_lt n q
      have hI := ih (q + 1) (by omega)
      rw [gmf] at hI
      show wb_X7_groupOf_4 _ _ _ _ _ _ _
      unfold wb_X7_groupOf_4
      refine br_le 4 (q : Int) rfl (tN (by omega)) (fun h => absurd h (by omega)) (fun _ => sp_X7_pk hT hp (by omega) (fun hb => ⟨fun _ => nm_r (or_z _ hl) (nm_r e3 ?_), fun g => absurd rfl g⟩) (fun hb => ⟨fun g => absurd g (by decide), fun _ => ⟨iI_in (by omega) (by omega) (by omega), ?_⟩⟩))
      · rw [if_neg (fun g => hb g.1), Nat.or_zero] at hI; exact hI
      · rw [iI_clN (by omega), hw q (by omega)]
        refine br_ne (wn n q : Int) (p : Int) (tN (by omega)) (tN (by omega)) (fun g => nm_r (or_z _ hl) (nm_r e3 ?_)) (fun g => nm_r (or_t _ hl q (by omega)).1 (nm_r e3 ?_))
        · rw [if_neg (fun g2 => g (by have := g2.2; omega)), Nat.or_zero] at hI; exact hI
        · rw [if_pos ⟨hb, by omega⟩] at hI; exact hI
  exact loop 4 0 (by omega)
theorem sp_X7_bestGroupOf {T : Tn} {purse wi : Nat → Int32} (hT : Tok T) (hp : pN purse T) {n p : Nat} (h4 : p < 4) (hw : WN n wi) {Q : Int32 → Prop} (hQ : Q (iI (gm (pmk T) n p : Int))) : wp_X7_bestGroupOf (iI (p : Int)) wi purse Q := by
  unfold wp_X7_bestGroupOf
  refine ⟨5, ?_⟩
  have loop : ∀ (r q : Nat), q + r = 4 → wl_X7_bestGroupOf_4 (iI (p : Int)) wi purse (fun k => wx_X7_bestGroupOf_4 k Q) (r + 1) (iI (gmf (pmk T) n p q : Int)) (iI (q : Int)) := by
    intro r
    induction r with
    | zero =>
      intro q hq
      show wb_X7_bestGroupOf_4 _ _ _ _ _ _ _
      unfold wb_X7_bestGroupOf_4
      refine br_le 4 (q : Int) rfl (tN (by omega)) (fun _ => ?_) (fun h => absurd h (by omega))
      have e : q = 4 := by omega
      subst e
      exact hQ
    | succ r ih =>
      intro q hq
      have e3 : iI (q : Int) + 1 = iI ((q + 1 : Nat) : Int) := iI_add _ 1
      have hl := gmf_lt (pmk T) n p q (by omega)
      have hwl := wn_lt n q
      have hI := ih (q + 1) (by omega)
      rw [gmf] at hI
      show wb_X7_bestGroupOf_4 _ _ _ _ _ _ _
      unfold wb_X7_bestGroupOf_4
      refine br_le 4 (q : Int) rfl (tN (by omega)) (fun h => absurd h (by omega)) (fun _ => sp_X7_pk hT hp (by omega) (fun hb => ⟨fun _ => nm_r (or_z _ hl) (nm_r e3 ?_), fun g => absurd rfl g⟩) (fun hb => ⟨fun g => absurd g (by decide), fun _ => ⟨iI_in (by omega) (by omega) (by omega), ?_⟩⟩))
      · rw [if_neg (fun g => hb g.1), Nat.or_zero] at hI; exact hI
      · rw [iI_clN (by omega), hw q (by omega)]
        refine br_ne (wn n q : Int) (p : Int) (tN (by omega)) (tN (by omega)) (fun g => nm_r (or_z _ hl) (nm_r e3 ?_)) (fun g => nm_r (or_t _ hl q (by omega)).1 (nm_r e3 ?_))
        · rw [if_neg (fun g2 => g (by have := g2.2; omega)), Nat.or_zero] at hI; exact hI
        · rw [if_pos ⟨hb, by omega⟩] at hI; exact hI
  exact loop 4 0 (by omega)
def hv (o : Option Int) : Int := match o with
  | none => -6
  | some v => v
theorem sp_X7_hasOf {T : Tn} {purse best many : Nat → Int32} (hT : Tok T) (hb : MB T 63 0 best many) (hp : pN purse T) {m : Nat} (hm : m < 16) (hc : 0 < gcn m 4) {Q : Int32 → Prop} (hQ : Q (iI (hv (gW T m)))) : wp_X7_hasOf (iI (m : Int)) best purse Q := by
  unfold wp_X7_hasOf
  refine ⟨5, ?_⟩
  have loop : ∀ (r p : Nat), p + r = 4 → wl_X7_hasOf_7 (iI (m : Int)) purse (fun a b => wx_X7_hasOf_7 a b best Q) (r + 1) (iI (gsm T m p)) (iI (gcn m p : Int)) (iI (p : Int)) := by
    intro r
    induction r with
    | zero =>
      intro p hp4
      show wb_X7_hasOf_7 _ _ _ _ _ _ _
      unfold wb_X7_hasOf_7
      refine br_le 4 (p : Int) rfl (tN (by omega)) (fun _ => ?_) (fun q => absurd q (by omega))
      show wx_X7_hasOf_7 _ _ _ _
      unfold wx_X7_hasOf_7
      have e : p = 4 := by omega
      subst e
      have hgb := gsm_b hT m 4 (Nat.le_refl 4)
      have hcl := gcn_le m 4
      have eI : (iI (gsm T m 4)).toInt = gsm T m 4 := tI (by omega)
      unfold gW at hQ
      refine sp_X7_cO hT hb ?_
      rw [eI]
      refine bz_e (fun g => ?_) (fun g => ?_)
      · rw [if_neg g] at hQ
        refine br_ne (gcn m 4 : Int) 1 (tN (by omega)) rfl (fun q => ?_) (fun q => ?_)
        · rw [if_neg (by omega)] at hQ; exact hQ
        · rw [if_pos (by omega)] at hQ; exact hQ
      · rw [if_pos g] at hQ
        have g2 := (cO_iff T _).mp g
        refine ⟨iI_in (by omega) (by omega) (by omega), ?_⟩
        rw [iI_cl (by omega) (by omega), MB_w hT hb g]
        exact hQ
    | succ r ih =>
      intro p hp4
      have e3 : iI (p : Int) + 1 = iI ((p + 1 : Nat) : Int) := iI_add _ 1
      show wb_X7_hasOf_7 _ _ _ _ _ _ _
      unfold wb_X7_hasOf_7
      have hI := ih (p + 1) (by omega)
      rw [gsm, gcn] at hI
      refine br_le 4 (p : Int) rfl (tN (by omega)) (fun q => absurd q (by omega)) (fun _ => br_pn (bit_t m (by omega) p (by omega)) (fun q => nm_r (iI_add _ 0) (nm_r (e' := iI (gcn m p : Int)) ?_ (nm_r e3 ?_))) (fun q => ⟨iI_in (by omega) (by omega) (by omega), ?_⟩))
      · rw [bit_v m hm p (by omega), if_neg q]
        exact iI_add _ 0
      · rw [if_neg q, if_neg q] at hI
        rw [Int.add_zero]
        exact hI
      · rw [if_pos q, if_pos q] at hI
        rw [iI_clN (by omega), hp p (by omega), bit_v m hm p (by omega), if_pos q]
        exact nm_r (iI_add _ _) (nm_r (iI_add _ 1) (nm_r e3 hI))
  exact loop 4 0 (by omega)
theorem gm_bit : ∀ pm : Nat, pm < 16 → (List.range 256).all (fun n => (List.range 4).all (fun p => !(pm.testBit p) || !(wn n p == p) || (gm pm n p).testBit p)) = true := by decide +kernel
theorem gm_tb {pm n p : Nat} (hpm : pm < 16) (hn : n < 256) (hp : p < 4) (h1 : pm.testBit p = true) (h2 : wn n p = p) : (gm pm n p).testBit p = true := by
  have h := gm_bit pm hpm
  rw [List.all_eq_true] at h
  have h3 := h n (List.mem_range.mpr hn)
  rw [List.all_eq_true] at h3
  have h4 := h3 p (List.mem_range.mpr hp)
  rw [h1, beq_iff_eq.mpr h2] at h4
  simpa using h4
theorem oadd_n (a : Option Int) : oadd a none = none := by cases a <;> rfl
def hva (a : Int) (o : Option Int) : Int := match o with
  | none => -6
  | some v => a + v
theorem sp_X7_hasAll {T : Tn} {purse best many wi : Nat → Int32} (hT : Tok T) (hb : MB T 63 0 best many) (hp : pN purse T) {n : Nat} (hn : n < 256) (hw : WN n wi) {Q : Int32 → Prop} (hQ : Q (iI (hv (sW (gW T) (grp (pmk T) n))))) : wp_X7_hasAll best purse wi Q := by
  have hpm : pmk T < 16 := pkm_lt T 4 (Nat.le_refl 4)
  unfold wp_X7_hasAll
  refine ⟨5, ?_⟩
  have loop : ∀ (r p : Nat), p + r = 4 → ∀ a : Int, Q (iI (hva a (sW (gW T) (grf (pmk T) n r p)))) → wl_X7_hasAll_4 best purse wi (fun k => wx_X7_hasAll_4 k Q) Q (r + 1) (iI a) (iI (p : Int)) := by
    intro r
    induction r with
    | zero =>
      intro p hp4 a hq
      show wb_X7_hasAll_4 _ _ _ _ _ _ _ _
      unfold wb_X7_hasAll_4
      refine br_le 4 (p : Int) rfl (tN (by omega)) (fun _ => ?_) (fun q => absurd q (by omega))
      have hq : Q (iI (a + 0)) := hq
      rw [Int.add_zero] at hq
      exact hq
    | succ r ih =>
      intro p hp4 a hq
      have e3 : iI (p : Int) + 1 = iI ((p + 1 : Nat) : Int) := iI_add _ 1
      have hwl := wn_lt n p
      have hin : vp_in (iI (p : Int)) 4 := iI_in (by omega) (by omega) (by omega)
      rw [grf] at hq
      show wb_X7_hasAll_4 _ _ _ _ _ _ _ _
      unfold wb_X7_hasAll_4
      refine br_le 4 (p : Int) rfl (tN (by omega)) (fun q => absurd q (by omega)) (fun _ => sp_X7_pk hT hp (by omega) (fun hbt => ⟨fun _ => nm_r e3 (ih (p + 1) (by omega) a ?_), fun q => absurd rfl q⟩) (fun hbt => ⟨fun q => absurd q (by decide), fun _ => ⟨hin, ?_⟩⟩))
      · rw [if_neg (fun g => hbt g.1)] at hq; exact hq
      · rw [iI_clN (by omega), hw p (by omega)]
        refine br_ne (wn n p : Int) (p : Int) (tN (by omega)) (tN (by omega)) (fun q => nm_r e3 (ih (p + 1) (by omega) a ?_)) (fun q => sp_X7_groupOf hT hp (by omega) hw (sp_X7_hasOf hT hb hp (gm_lt _ _ _) (gcn_pos _ (gm_lt _ _ _) p (by omega) (gm_tb hpm hn (by omega) hbt (by omega))) ?_))
        · rw [if_neg (fun g => q (by have := g.2; omega))] at hq; exact hq
        · rw [if_pos ⟨hbt, by omega⟩, sW] at hq
          cases hg : gW T (gm (pmk T) n p) with
          | none =>
            rw [hg] at hq
            refine br_le 0 (-6) rfl (tI (z := -6) (by omega)) (fun q => absurd q (by omega)) (fun _ => ?_)
            exact hq
          | some w =>
            have hwb := gW_b hT _ w hg
            rw [hg] at hq
            refine br_le 0 w rfl (tI (z := w) (by omega)) (fun _ => nm_r (iI_add _ _) (nm_r e3 (ih (p + 1) (by omega) (a + w) ?_))) (fun q => absurd q (by omega))
            cases hs : sW (gW T) (grf (pmk T) n r (p + 1)) with
            | none => rw [hs, oadd_n] at hq; exact hq
            | some v =>
              rw [hs] at hq
              have hq : Q (iI (a + (w + v))) := hq
              rw [← Int.add_assoc] at hq
              exact hq
  refine loop 4 0 (by omega) 0 ?_
  have e : hva 0 (sW (gW T) (grf (pmk T) n 4 0)) = hv (sW (gW T) (grp (pmk T) n)) := by
    show hva 0 (sW (gW T) (grp (pmk T) n)) = _
    cases sW (gW T) (grp (pmk T) n) with
    | none => rfl
    | some v => exact Int.zero_add v
  rw [e]
  exact hQ
theorem sp_X7_areAhead {T : Tn} {purse wi bw : Nat → Int32} (hT : Tok T) (hp : pN purse T) {n b : Nat} (hw : WN n wi) (hb : WN b bw) {Q : Int32 → Prop} (h0 : ¬ ahf (pmk T) n b 4 0 = true → Q 0) (h1 : ahf (pmk T) n b 4 0 = true → Q 1) : wp_X7_areAhead bw purse wi Q := by
  unfold wp_X7_areAhead
  refine ⟨5, ?_⟩
  have loop : ∀ (r p : Nat), p + r = 4 → (¬ ahf (pmk T) n b r p = true → Q 0) → (ahf (pmk T) n b r p = true → Q 1) → wl_X7_areAhead_2 bw purse wi (wx_X7_areAhead_2 Q) Q (r + 1) (iI (p : Int)) := by
    intro r
    induction r with
    | zero =>
      intro p hp4 h0 h1
      show wb_X7_areAhead_2 _ _ _ _ _ _ _
      unfold wb_X7_areAhead_2
      exact br_le 4 (p : Int) rfl (tN (by omega)) (fun _ => h0 (fun q => by cases q)) (fun q => absurd q (by omega))
    | succ r ih =>
      intro p hp4 h0 h1
      have e3 : iI (p : Int) + 1 = iI ((p + 1 : Nat) : Int) := iI_add _ 1
      have l1 := gm_lt (pmk T) n p
      have l2 := gm_lt (pmk T) b p
      rw [ahf] at h0 h1
      show wb_X7_areAhead_2 _ _ _ _ _ _ _
      unfold wb_X7_areAhead_2
      refine br_le 4 (p : Int) rfl (tN (by omega)) (fun q => absurd q (by omega)) (fun _ => sp_X7_groupOf hT hp (by omega) hw (sp_X7_bestGroupOf hT hp (by omega) hb ?_))
      refine br_eq (gm (pmk T) n p : Int) (gm (pmk T) b p : Int) (tN (by omega)) (tN (by omega)) (fun q => ?_) (fun q => ?_)
      · have q2 : gm (pmk T) n p = gm (pmk T) b p := by omega
        rw [if_pos q2] at h0 h1
        exact nm_r e3 (ih (p + 1) (by omega) h0 h1)
      · have q2 : ¬ gm (pmk T) n p = gm (pmk T) b p := by omega
        rw [if_neg q2] at h0 h1
        refine br_eq (gm (pmk T) n p : Int) 0 (tN (by omega)) rfl (fun q3 => ?_) (fun q3 => ?_)
        · rw [if_pos (show gm (pmk T) n p = 0 by omega)] at h0
          exact h0 (fun g => by cases g)
        · rw [if_neg (show ¬ gm (pmk T) n p = 0 by omega)] at h0 h1
          refine br_eq (gm (pmk T) b p : Int) 0 (tN (by omega)) rfl (fun q4 => ?_) (fun q4 => ?_)
          · rw [if_pos (show gm (pmk T) b p = 0 by omega)] at h1
            exact h1 rfl
          · rw [if_neg (show ¬ gm (pmk T) b p = 0 by omega), decide_eq_true_iff] at h0 h1
            exact br_le (gm (pmk T) b p : Int) (gm (pmk T) n p : Int) (tN (by omega)) (tN (by omega)) (fun q5 => h0 (by omega)) (fun q5 => h1 (by omega))
  exact loop 4 0 (by omega) h0 h1
theorem sp_X7_copyWith {n : Nat} {wi : Nat → Int32} (hw : WN n wi) {K : (Nat → Int32) → Prop} (hK : ∀ bw, WN n bw → K bw) : ∀ (r p : Nat), p + r = 4 → ∀ bw : Nat → Int32, (∀ q, q < p → bw q = iI (wn n q : Int)) → wl_X7_together_74 wi K (r + 1) (iI (p : Int)) bw := by
  intro r
  induction r with
  | zero =>
    intro p hp bw hb
    show wb_X7_together_74 _ _ _ _ _
    unfold wb_X7_together_74
    exact br_le 4 (p : Int) rfl (tN (by omega)) (fun _ => hK bw (fun q hq => hb q (by omega))) (fun q => absurd q (by omega))
  | succ r ih =>
    intro p hp bw hb
    have hin : vp_in (iI (p : Int)) 4 := iI_in (by omega) (by omega) (by omega)
    show wb_X7_together_74 _ _ _ _ _
    unfold wb_X7_together_74
    refine br_le 4 (p : Int) rfl (tN (by omega)) (fun q => absurd q (by omega)) (fun _ => ⟨hin, hin, nm_r rfl (nm_r (e' := iI ((p + 1 : Nat) : Int)) (iI_add _ 1) (ih (p + 1) (by omega) _ (fun q hq => ?_)))⟩)
    rw [iI_clN (by omega), hw p (by omega)]
    unfold upd
    by_cases e : q = p
    · rw [if_pos e, e]
    · rw [if_neg e]; exact hb q (by omega)
theorem id_t : ∀ pm : Nat, pm < 16 → vst pm 228 4 = true ∧ (grp pm 228).all (fun m => decide (gcn m 4 ≤ 1)) = true := by decide +kernel
theorem sW_id {T : Tn} : ∀ c : List Nat, c.all (fun m => decide (gcn m 4 ≤ 1)) = true → sW (gW T) c ≠ none := by
  intro c
  induction c with
  | nil => intro _ h; cases h
  | cons m c ih =>
    intro h
    rw [List.all_cons, Bool.and_eq_true, decide_eq_true_iff] at h
    rw [sW]
    have h2 := ih h.2
    cases hs : sW (gW T) c with
    | none => exact absurd hs h2
    | some v =>
      unfold gW
      by_cases q : cO T (gsm T m 4) = true
      · rw [if_pos q]; intro g; cases g
      · rw [if_neg q, if_pos h.1]; intro g; cases g
theorem sW_b {T : Tn} (hT : Tok T) : ∀ (c : List Nat) v, sW (gW T) c = some v → 0 ≤ v ∧ v ≤ 10000 * (c.length : Int) := by
  intro c
  induction c with
  | nil => intro v h; have : v = 0 := (Option.some.inj h).symm; rw [this]; exact ⟨Int.le_refl 0, Int.le_refl 0⟩
  | cons m c ih =>
    intro v h
    obtain ⟨x, y, e1, e2, e3⟩ := oadd_some h
    have h1 := gW_b hT m x e1
    have h2 := ih y e2
    rw [List.length_cons]
    omega
theorem grf_len (pm n : Nat) : ∀ r p, (grf pm n r p).length ≤ r := by
  intro r
  induction r with
  | zero => intro p; exact Nat.le_refl 0
  | succ r ih =>
    intro p
    rw [grf]
    split
    · have := ih (p + 1); rw [List.length_cons]; omega
    · have := ih (p + 1); omega
theorem sp_X7_together {T : Tn} {less price stock worth purse best many bw wi : Nat → Int32} (h : TX T less price stock worth) (hp : pN purse T) {x : Int32} {Q : Int32 → (Nat → Int32) → (Nat → Int32) → (Nat → Int32) → (Nat → Int32) → Prop} (hQ : ∀ best bw many wi, Q (iI (a_together T x.toInt)) best bw many wi) : wp_X7_together x best bw less many price purse stock wi worth Q := by
  have hpm : pmk T < 16 := pkm_lt T 4 (Nat.le_refl 4)
  have hW : ∀ T' w, gW T T' = some w → 0 ≤ w := fun T' w hw => (gW_b h.1 T' w hw).1
  have tb : ∀ n, n ≤ 256 → -1 ≤ (tgs (gW T) (pmk T) n).1 ∧ (tgs (gW T) (pmk T) n).1 ≤ 40000 := by
    intro n hn
    rcases tgs_inv hW hpm n hn with ⟨q, -⟩ | ⟨⟨-, -, q⟩, -⟩
    · omega
    · have h1 := sW_b h.1 _ _ q
      have h2 := grf_len (pmk T) (tgs (gW T) (pmk T) n).2 4 0
      have h3 : (grp (pmk T) (tgs (gW T) (pmk T) n).2).length = (grf (pmk T) (tgs (gW T) (pmk T) n).2 4 0).length := rfl
      omega
  have loop : ∀ (K : Int32 → (Nat → Int32) → (Nat → Int32) → Prop) (best many : Nat → Int32), MB T 63 0 best many → (∀ bw wi, WN (tgs (gW T) (pmk T) 256).2 bw → K (iI (tgs (gW T) (pmk T) 256).1) bw wi) → ∀ (r n : Nat), n + r = 256 → ∀ bw wi : Nat → Int32, ((tgs (gW T) (pmk T) n).1 ≠ -1 → WN (tgs (gW T) (pmk T) n).2 bw) → wl_X7_together_23 best purse K (r + 1) (iI (tgs (gW T) (pmk T) n).1) (iI (n : Int)) bw wi := by
    intro K best many hB hK r
    induction r with
    | zero =>
      intro n hn bw wi hb
      show wb_X7_together_23 _ _ _ _ _ _ _ _
      unfold wb_X7_together_23
      refine br_le 256 (n : Int) rfl (tN (by omega)) (fun _ => ?_) (fun q => absurd q (by omega))
      have e : n = 256 := by omega
      subst e
      refine hK bw wi (hb (fun q => ?_))
      rcases tgs_inv hW hpm 256 (Nat.le_refl _) with ⟨-, h2⟩ | ⟨⟨-, -, h3⟩, -⟩
      · have hid := id_t (pmk T) hpm
        exact sW_id _ hid.2 (h2 228 (by omega) hid.1)
      · have := sW_nn hW _ _ h3
        omega
    | succ r ih =>
      intro n hn bw wi hb
      have e3 : iI (n : Int) + 1 = iI ((n + 1 : Nat) : Int) := iI_add _ 1
      have hI := ih (n + 1) (by omega)
      rw [tgs] at hI
      have ht := tb n (by omega)
      show wb_X7_together_23 _ _ _ _ _ _ _ _
      unfold wb_X7_together_23
      refine br_le 256 (n : Int) rfl (tN (by omega)) (fun q => absurd q (by omega)) (fun _ => sp_X7_layGroups h.1 hp (by omega) (fun wi hv' => ⟨fun _ => nm_r e3 ?_, fun q => absurd rfl q⟩) (fun wi hwn hv' => ⟨fun q => absurd q (by decide), fun _ => sp_X7_hasAll h.1 hB hp (by omega) hwn ?_⟩))
      · rw [if_neg hv'] at hI; exact hI bw wi hb
      · rw [if_pos hv'] at hI
        cases hs : sW (gW T) (grp (pmk T) n) with
        | none =>
          rw [hs] at hI
          exact br_lt (-6) 0 (tI (z := -6) (by omega)) rfl (fun _ => nm_r e3 (hI bw wi hb)) (fun q => absurd q (by omega))
        | some v =>
          rw [hs] at hI
          simp only [] at hI
          have hv0 := sW_b h.1 _ _ hs
          have hl : (grp (pmk T) n).length ≤ 4 := grf_len (pmk T) n 4 0
          refine br_lt v 0 (tI (z := v) (by omega)) rfl (fun q => absurd q (by omega)) (fun _ => br_lt (tgs (gW T) (pmk T) n).1 v (tI (by omega)) (tI (z := v) (by omega)) (fun hlt => ⟨5, ?_⟩) (fun hge => br_ne v (tgs (gW T) (pmk T) n).1 (tI (z := v) (by omega)) (tI (by omega)) (fun hne => nm_r e3 ?_) (fun heq => ?_)))
          · rw [if_pos (Or.inl hlt)] at hI
            refine sp_X7_copyWith hwn (K := fun k => wx_X7_together_74 (iI v) (iI (n : Int)) k wi _) (fun bw hbw => ?_) 4 0 (by omega) bw (fun q hq => absurd hq (by omega))
            exact nm_r e3 (hI bw wi (fun _ => hbw))
          · rw [if_neg (by intro g; rcases g with g | g; omega; exact hne g.1)] at hI
            exact hI bw wi hb
          · refine sp_X7_areAhead h.1 hp hwn (hb (by omega)) (fun g => ⟨fun _ => nm_r e3 ?_, fun q => absurd rfl q⟩) (fun g => ⟨fun q => absurd q (by decide), fun _ => ⟨5, ?_⟩⟩)
            · rw [if_neg (by intro g2; rcases g2 with g2 | g2; omega; exact g g2.2)] at hI
              exact hI bw wi hb
            · rw [if_pos (Or.inr ⟨heq, g⟩)] at hI
              refine sp_X7_copyWith hwn (K := fun k => wx_X7_together_74 (iI v) (iI (n : Int)) k wi _) (fun bw hbw => ?_) 4 0 (by omega) bw (fun q hq => absurd hq (by omega))
              exact nm_r e3 (hI bw wi (fun _ => hbw))
  unfold wp_X7_together
  unfold a_together at hQ
  refine br_eq x.toInt (-1) rfl rfl (fun hx => ?_) (fun hx => sp_X7_pO h.1 hp (bz_n (fun hy => ?_) (fun hy => ?_)))
  · rw [if_pos hx] at hQ
    refine sp_X7_fillAll h.1 h.2.1 h.2.2.1 h.2.2.2.1 h.2.2.2.2 (fun best many hB => ⟨257, loop _ best many (hB 0 (by omega)) (fun bw wi hbw => ?_) 256 0 (by omega) bw wi (fun q => absurd rfl q)⟩)
    show wx_X7_together_23 _ _ _ _ _ _ _
    unfold wx_X7_together_23
    exact br_ne x.toInt (-1) rfl rfl (fun q => absurd hx q) (fun _ => hQ _ _ _ _)
  · rw [if_neg hx, if_pos hy] at hQ
    refine sp_X7_fillAll h.1 h.2.1 h.2.2.1 h.2.2.2.1 h.2.2.2.2 (fun best many hB => ⟨257, loop _ best many (hB 0 (by omega)) (fun bw wi hbw => ?_) 256 0 (by omega) bw wi (fun q => absurd rfl q)⟩)
    show wx_X7_together_23 _ _ _ _ _ _ _
    unfold wx_X7_together_23
    have gx := ((pO_iff T _).mp hy).1
    refine br_ne x.toInt (-1) rfl rfl (fun _ => ⟨vp_in_iff.mpr ⟨gx.1, by omega⟩, ?_⟩) (fun q => absurd q hx)
    rw [show bw (Int32.toNatClampNeg x) = iI (wn (tgs (gW T) (pmk T) 256).2 x.toInt.toNat : Int) from hbw x.toInt.toNat (by omega)]
    exact hQ _ _ _ _
  · rw [if_neg hx, if_neg hy] at hQ
    exact hQ _ _ _ _
