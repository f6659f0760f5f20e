/-! together: the class -/
theorem br_p {c p A B : Prop} (h : c ↔ p) (hA : p → A) (hB : ¬ p → B) : (c → A) ∧ (¬ c → B) := ⟨fun q => hA (h.mp q), fun q => hB (fun g => q (h.mpr g))⟩
theorem br_pn {c p A B : Prop} (h : c ↔ p) (hA : ¬ p → A) (hB : p → B) : (¬ c → A) ∧ (¬ (¬ c) → B) := ⟨fun q => hA (fun g => q (h.mpr g)), fun q => hB (h.mp (Classical.not_not.mp q))⟩
theorem bit_0 : ∀ m : Nat, m < 16 → ∀ t : Nat, t < 4 → (((iI (m : Int) >>> (iI (t : Int) &&& 31)) &&& (1 : Int32)) = 0 ↔ Nat.testBit m t = false) := by decide +kernel
theorem an_t : ∀ S : Nat, S < 16 → ∀ T : Nat, T < 16 → ((iI (T : Int) &&& (iI (S : Int) ^^^ (-1 : Int32))) = 0 ↔ (T &&& S) = T) := by decide +kernel
theorem df_all : ∀ S : Nat, S < 16 → (List.range 16).all (fun T => !((T &&& S) == T) || (((iI (S : Int) &&& (iI (T : Int) ^^^ (-1 : Int32))) == iI ((S - T : Nat) : Int)) && (List.range 4).all (fun p => (S.testBit p && !(T.testBit p)) == (S - T).testBit p))) = true := by decide +kernel
theorem df_t {S T : Nat} (hS : S < 16) (hT : T < 16) (h : (T &&& S) = T) : (iI (S : Int) &&& (iI (T : Int) ^^^ (-1 : Int32))) = iI ((S - T : Nat) : Int) ∧ ∀ p, p < 4 → S.testBit p = true → T.testBit p ≠ true → (S - T).testBit p = true := by
  have h1 := df_all S hS
  rw [List.all_eq_true] at h1
  have h2 := h1 T (List.mem_range.mpr hT)
  rw [beq_iff_eq.mpr h, Bool.or_eq_true] at h2
  rcases h2 with q | q
  · cases q
  · rw [Bool.and_eq_true, beq_iff_eq, List.all_eq_true] at q
    refine ⟨q.1, fun p hp a b => ?_⟩
    have h3 := q.2 p (List.mem_range.mpr hp)
    have b2 : T.testBit p = false := by simpa using b
    rw [a, b2] at h3
    simpa using h3
theorem or_t : ∀ a : Nat, a < 16 → ∀ q : Nat, q < 4 → ((iI (a : Int) ||| ((1 : Int32) <<< (iI (q : Int) &&& 31))) = iI ((a ||| 2 ^ q : Nat) : Int) ∧ (a ||| 2 ^ q) < 16) := by decide +kernel
def gcn (m : Nat) : Nat → Nat
  | 0 => 0
  | n + 1 => if m.testBit n = true then gcn m n + 1 else gcn m n
theorem one_t : ∀ S : Nat, S < 16 → 0 < S → ((2 ^ lea S &&& S) = 2 ^ lea S ∧ (2 ^ lea S).testBit (lea S) = true) ∧ gcn (2 ^ lea S) 4 ≤ 1 ∧ 2 ^ lea S ≤ S ∧ lea S < 4 := by decide +kernel
theorem lea_lt (S : Nat) : lea S < 4 := by
  unfold lea
  split
  · omega
  · split
    · omega
    · split <;> omega
theorem gcn_le (m : Nat) : ∀ n, gcn m n ≤ n := by
  intro n
  induction n with
  | zero => exact Nat.le_refl 0
  | succ n ih => rw [gcn]; split <;> omega
/-- the purses that are there, as bits -/
def pk (T : Tn) : Nat → Nat
  | 0 => 0
  | n + 1 => if 0 ≤ tQ T n then pk T n ||| 2 ^ n else pk T n
def pmk (T : Tn) : Nat := pk T 4
theorem pkm_lt (T : Tn) : ∀ n, n ≤ 4 → pk T n < 16 := by
  intro n
  induction n with
  | zero => intro _; exact (by decide : (0 : Nat) < 16)
  | succ n ih =>
    intro hn
    rw [pk]
    split
    · exact (or_t _ (ih (by omega)) n (by omega)).2
    · exact ih (by omega)
theorem pk_e (T : Tn) : pk T 4 = ((((if 0 ≤ tQ T 0 then 1 else 0) ||| (if 0 ≤ tQ T 1 then 2 else 0)) ||| (if 0 ≤ tQ T 2 then 4 else 0)) ||| (if 0 ≤ tQ T 3 then 8 else 0)) := by
  simp only [pk]
  by_cases h0 : 0 ≤ tQ T 0 <;> by_cases h1 : 0 ≤ tQ T 1 <;> by_cases h2 : 0 ≤ tQ T 2 <;> by_cases h3 : 0 ≤ tQ T 3 <;> simp only [h0, h1, h2, h3, if_true, if_false] <;> rfl
theorem pO_pk (T : Tn) {p : Nat} (hp : p < 4) : pO T (p : Int) = true ↔ (pmk T).testBit p = true := by
  rw [pO_iff]
  have e : ((p : Int)).toNat = p := by omega
  rw [e]
  have h1 : ((0 : Int) ≤ (p : Int) ∧ (p : Int) ≤ 3) ∧ 0 ≤ tQ T p ↔ 0 ≤ tQ T p := ⟨fun h => h.2, fun h => ⟨by omega, h⟩⟩
  rw [h1]
  unfold pmk
  rw [pk_e]
  rcases (show p = 0 ∨ p = 1 ∨ p = 2 ∨ p = 3 by omega) with rfl | rfl | rfl | rfl <;> by_cases h0 : 0 ≤ tQ T 0 <;> by_cases h1 : 0 ≤ tQ T 1 <;> by_cases h2 : 0 ≤ tQ T 2 <;> by_cases h3 : 0 ≤ tQ T 3 <;> simp only [h0, h1, h2, h3, if_true, if_false] <;> decide
/-- the pence of the purses m -/
def gsm (T : Tn) (m : Nat) : Nat → Int
  | 0 => 0
  | n + 1 => if m.testBit n = true then gsm T m n + tQ T n else gsm T m n
theorem gsm_b {T : Tn} (hT : Tok T) (m : Nat) : ∀ n : Nat, n ≤ 4 → -(n : Int) ≤ gsm T m n ∧ gsm T m n ≤ 999 * (n : Int) := by
  intro n
  induction n with
  | zero => intro _; exact ⟨(by decide : (-0 : Int) ≤ 0), (by decide : (0 : Int) ≤ 999 * 0)⟩
  | succ n ih =>
    intro hn
    have h1 := ih (by omega)
    have h2 := hT.2.1 n (by omega)
    rw [gsm]
    split <;> omega
/-- the worth of the purses m as one group; none if it is not allowed -/
def gW (T : Tn) (m : Nat) : Option Int := if cO T (gsm T m 4) = true then some (wO T (gsm T m 4)) else if gcn m 4 ≤ 1 then some 0 else none
theorem gW_b {T : Tn} (hT : Tok T) (m : Nat) (w : Int) (h : gW T m = some w) : 0 ≤ w ∧ w ≤ 10000 := by
  unfold gW at h
  have hb := wO_b hT (gsm T m 4)
  by_cases h1 : cO T (gsm T m 4) = true
  · rw [if_pos h1] at h; cases h; exact hb
  · rw [if_neg h1] at h
    by_cases h2 : gcn m 4 ≤ 1
    · rw [if_pos h2] at h; cases h; omega
    · rw [if_neg h2] at h; cases h
def gv (o : Option Int) : Int := match o with
  | none => -1
  | some v => v
theorem sp_X3_wAny {T : Tn} (hT : Tok T) {ranks : Nat → Int64} (hr : RKs T 63 ranks) {x : Int32} {Q : Int32 → Prop} (h1 : cO T x.toInt = true → Q (iI (wO T x.toInt))) (h0 : ¬ cO T x.toInt = true → Q 0) : wp_X3_worthAt x ranks Q := by
  by_cases h : cO T x.toInt = true
  · exact sp_X3_wO hT hr ((cO_iff T _).mp h).1 (h1 h)
  · unfold wp_X3_worthAt
    refine sp_X3_cO hT hr ?_
    rw [bz_f h]
    exact ⟨fun _ => h0 h, fun q => absurd rfl q⟩
theorem sp_X2_groupWorth {T : Tn} (hT : Tok T) {ranks : Nat → Int64} (hr : RKs T 63 ranks) {purse : Nat → Int32} (hp : pN purse T) {m : Nat} (hm : m < 16) {Q : Int32 → Prop} (hQ : Q (iI (gv (gW T m)))) : wp_X2_groupWorth (iI (m : Int)) purse ranks Q := by
  unfold wp_X2_groupWorth
  refine ⟨5, ?_⟩
  have loop : ∀ (r p : Nat), p + r = 4 → wl_X2_groupWorth_8 (iI (m : Int)) purse (fun a b => wx_X2_groupWorth_8 a b ranks Q) (r + 1) (iI (gsm T m p)) (iI (gcn m p : Int)) (iI (p : Int)) := by
    intro r
    induction r with
    | zero =>
      intro p hp4
      show wb_X2_groupWorth_8 _ _ _ _ _ _ _
      unfold wb_X2_groupWorth_8
      refine br_le 4 (p : Int) rfl (tN (by omega)) (fun _ => ?_) (fun q => absurd q (by omega))
      show wx_X2_groupWorth_8 _ _ _ _
      unfold wx_X2_groupWorth_8
      have e : p = 4 := by omega
      subst e
      have hb := gsm_b hT m 4 (Nat.le_refl 4)
      have hc := gcn_le m 4
      have eI : (iI (gsm T m 4)).toInt = gsm T m 4 := tI (by omega)
      unfold gW at hQ
      refine br_le (gcn m 4 : Int) 1 (tN (by omega)) rfl (fun h => sp_X3_wAny hT hr (fun g => ?_) (fun g => ?_)) (fun h => sp_X3_cO hT hr ?_)
      · rw [eI] at g ⊢; rw [if_pos g] at hQ; exact hQ
      · rw [eI] at g; rw [if_neg g, if_pos (by omega)] at hQ; exact hQ
      · rw [eI]
        refine bz_n (fun g => sp_X3_wAny hT hr (fun g2 => ?_) (fun g2 => ?_)) (fun g => ?_)
        · rw [eI]; rw [if_pos g] at hQ; exact hQ
        · rw [eI] at g2; exact absurd g g2
        · rw [if_neg g, if_neg (by omega)] at hQ; exact hQ
    | succ r ih =>
      intro p hp4
      have e3 : iI (p : Int) + 1 = iI ((p + 1 : Nat) : Int) := iI_add _ 1
      show wb_X2_groupWorth_8 _ _ _ _ _ _ _
      unfold wb_X2_groupWorth_8
      have hI := ih (p + 1) (by omega)
      rw [gsm, gcn] at hI
      refine br_le 4 (p : Int) rfl (tN (by omega)) (fun q => absurd q (by omega)) (fun _ => br_pn (bit_t m (by omega) p (by omega)) (fun q => nm_r e3 ?_) (fun q => ⟨iI_in (by omega) (by omega) (by omega), ?_⟩))
      · rw [if_neg q, if_neg q] at hI; exact hI
      · rw [if_pos q, if_pos q] at hI
        rw [iI_clN (by omega), hp p (by omega)]
        exact nm_r (iI_add _ _) (nm_r (iI_add _ 1) (nm_r e3 hI))
  exact loop 4 0 (by omega)
theorem sp_X2_leastIn {S : Nat} (hS : S < 16) {Q : Int32 → Prop} (hQ : Q (iI (lea S : Int))) : wp_X2_leastIn (iI (S : Int)) Q := by
  unfold wp_X2_leastIn
  refine ⟨4, ?_⟩
  unfold lea at hQ
  have b := fun t ht => bit_0 S hS t ht
  show wb_X2_leastIn_2 _ (iI ((0 : Nat) : Int)) _ _
  unfold wb_X2_leastIn_2
  refine br_le 3 ((0 : Nat) : Int) rfl (tN (by omega)) (fun q => absurd q (by omega)) (fun _ => br_pn (b 0 (by omega)) (fun q => ?_) (fun q => nm_r (e' := iI ((1 : Nat) : Int)) (iI_add _ 1) ?_))
  · rw [if_pos (by simpa using q)] at hQ; exact hQ
  rw [if_neg (by rw [q]; decide)] at hQ
  show wb_X2_leastIn_2 _ _ _ _
  unfold wb_X2_leastIn_2
  refine br_le 3 ((1 : Nat) : Int) rfl (tN (by omega)) (fun q => absurd q (by omega)) (fun _ => br_pn (b 1 (by omega)) (fun q => ?_) (fun q => nm_r (e' := iI ((2 : Nat) : Int)) (iI_add _ 1) ?_))
  · rw [if_pos (by simpa using q)] at hQ; exact hQ
  rw [if_neg (by rw [q]; decide)] at hQ
  show wb_X2_leastIn_2 _ _ _ _
  unfold wb_X2_leastIn_2
  refine br_le 3 ((2 : Nat) : Int) rfl (tN (by omega)) (fun q => absurd q (by omega)) (fun _ => br_pn (b 2 (by omega)) (fun q => ?_) (fun q => nm_r (e' := iI ((3 : Nat) : Int)) (iI_add _ 1) ?_))
  · rw [if_pos (by simpa using q)] at hQ; exact hQ
  rw [if_neg (by rw [q]; decide)] at hQ
  show wb_X2_leastIn_2 _ _ _ _
  unfold wb_X2_leastIn_2
  exact br_le 3 ((3 : Nat) : Int) rfl (tN (by omega)) (fun _ => hQ) (fun q => absurd q (by omega))
/-- the best of a set, found among its groups -/
def DPx (W : Nat → Option Int) (D : Nat → Int) (S : Nat) (v : Int) (g : Nat) : Prop := ((g &&& S) = g ∧ g.testBit (lea S) = true) ∧ (∃ w, W g = some w ∧ v = w + D (S - g)) ∧ ∀ T w, (T &&& S) = T → T.testBit (lea S) = true → W T = some w → w + D (S - T) ≤ v ∧ (w + D (S - T) = v → g ≤ T)
theorem sp_X2_settleSet {T : Tn} (hT : Tok T) {ranks : Nat → Int64} (hr : RKs T 63 ranks) {purse : Nat → Int32} (hp : pN purse T) {pm S : Nat} (hpm : pm < 16) (hS : S < 16) (hS0 : 0 < S) (hsub : (S &&& pm) = S) {D : Nat → Int} {most group : Nat → Int32} (hm : ∀ R, R < S → (R &&& pm) = R → most R = iI (D R) ∧ 0 ≤ D R ∧ D R ≤ 10000 * (R : Int))
    {Q : (Nat → Int32) → (Nat → Int32) → Prop} (hQ : ∀ (most' group' : Nat → Int32) (v : Int) (g : Nat), 0 ≤ v → v ≤ 10000 * (S : Int) → DPx (gW T) D S v g → (∀ i, i ≠ S → most' i = most i ∧ group' i = group i) → most' S = iI v → group' S = iI (g : Int) → Q group' most') : wp_X2_settleSet (iI (S : Int)) purse ranks group most Q := by
  unfold wp_X2_settleSet
  have hinS : vp_in (iI (S : Int)) 16 := iI_in (by omega) (by omega) (by omega)
  refine ⟨hinS, nm_r rfl (sp_X2_leastIn hS ⟨S + 1, ?_⟩)⟩
  rw [iI_clN (by omega)]
  have one := one_t S hS hS0
  have loop : ∀ (r u : Nat), u + r = S + 1 → 1 ≤ u → ∀ (most' group' : Nat → Int32) (v : Int) (g : Nat), (∀ i, i ≠ S → most' i = most i ∧ group' i = group i) → most' S = iI v →
      ((v = -1 ∧ ∀ T' w, T' < u → (T' &&& S) = T' → T'.testBit (lea S) = true → gW T T' ≠ some w) ∨ (((0 ≤ v ∧ v ≤ 10000 * (S : Int)) ∧ g < u) ∧ group' S = iI (g : Int) ∧ ((g &&& S) = g ∧ g.testBit (lea S) = true) ∧ (∃ w, gW T g = some w ∧ v = w + D (S - g)) ∧ ∀ T' w, T' < u → (T' &&& S) = T' → T'.testBit (lea S) = true → gW T T' = some w → w + D (S - T') ≤ v ∧ (w + D (S - T') = v → g ≤ T'))) →
      wl_X2_settleSet_16 (iI (S : Int)) (iI (lea S : Int)) purse ranks (fun a b => wx_X2_settleSet_16 a b Q) (r + 1) (iI (u : Int)) group' most' := by
    intro r
    induction r with
    | zero =>
      intro u hu hu1 most' group' v g hfr hv hinv
      show wb_X2_settleSet_16 _ _ _ _ _ _ _ _ _
      unfold wb_X2_settleSet_16
      refine br_lt (S : Int) (u : Int) (tN (by omega)) (tN (by omega)) (fun _ => ?_) (fun q => absurd q (by omega))
      show Q group' most'
      rcases hinv with ⟨h1, h2⟩ | ⟨h1, h2, h3, h4, h5⟩
      · exfalso
        cases hw : gW T (2 ^ lea S) with
        | none =>
          unfold gW at hw
          by_cases q : cO T (gsm T (2 ^ lea S) 4) = true
          · rw [if_pos q] at hw; cases hw
          · rw [if_neg q, if_pos one.2.1] at hw; cases hw
        | some w => exact h2 _ w (by omega) one.1.1 one.1.2 hw
      · exact hQ most' group' v g h1.1.1 h1.1.2 ⟨h3, h4, fun T' w a b c => h5 T' w (by have := sub_le a; omega) a b c⟩ hfr hv h2
    | succ r ih =>
      intro u hu hu1 most' group' v g hfr hv hinv
      have e3 : iI (u : Int) + 1 = iI ((u + 1 : Nat) : Int) := iI_add _ 1
      have skip : (∀ w, (u &&& S) = u → u.testBit (lea S) = true → gW T u ≠ some w) → wl_X2_settleSet_16 (iI (S : Int)) (iI (lea S : Int)) purse ranks (fun a b => wx_X2_settleSet_16 a b Q) (r + 1) (iI ((u + 1 : Nat) : Int)) group' most' := by
        intro hno
        refine ih (u + 1) (by omega) (by omega) most' group' v g hfr hv ?_
        rcases hinv with ⟨h1, h2⟩ | ⟨h1, h2, h3, h4, h5⟩
        · refine Or.inl ⟨h1, fun T' w a b c => ?_⟩
          by_cases e : T' = u
          · rw [e] at b c ⊢; exact hno w b c
          · exact h2 T' w (by omega) b c
        · refine Or.inr ⟨⟨h1.1, by omega⟩, h2, h3, h4, fun T' w a b c d => ?_⟩
          by_cases e : T' = u
          · rw [e] at b c d; exact absurd d (hno w b c)
          · exact h5 T' w (by omega) b c d
      show wb_X2_settleSet_16 _ _ _ _ _ _ _ _ _
      unfold wb_X2_settleSet_16
      refine br_lt (S : Int) (u : Int) (tN (by omega)) (tN (by omega)) (fun q => absurd q (by omega)) (fun _ => br_pn (an_t S hS u (by omega)) (fun q => nm_r e3 (skip (fun w a _ => absurd a q))) (fun hus => br_pn (bit_t u (by omega) (lea S) (by have := lea_lt S; omega)) (fun q => nm_r e3 (skip (fun w _ a => absurd a q))) (fun hul => ?_)))
      refine sp_X2_groupWorth hT hr hp (by omega) ?_
      rw [(df_t hS (show u < 16 by omega) hus).1, iI_clN (by omega), iI_clN (by omega), hv]
      have hR := hm (S - u) (by omega) (sub_ok pm hpm S hS u (by omega) hsub hus).1
      have hinR : vp_in (iI ((S - u : Nat) : Int)) 16 := iI_in (by omega) (by omega) (by omega)
      rw [(hfr (S - u) (by omega)).1, hR.1, iI_add]
      refine ⟨hinR, nm_r rfl ?_⟩
      cases hw : gW T u with
      | none => exact br_eq (-1) (-1) (tI (z := -1) (by omega)) rfl (fun _ => nm_r e3 (skip (fun w _ _ q => by rw [hw] at q; cases q))) (fun q => absurd rfl q)
      | some w =>
        have hwb := gW_b hT u w hw
        have hvb : -1 ≤ v ∧ v ≤ 10000 * (S : Int) := by
          rcases hinv with ⟨h1, -⟩ | ⟨h1, -⟩ <;> omega
        have hgv : gv (some w) = w := rfl
        rw [hgv]
        refine br_eq w (-1) (tI (by omega)) rfl (fun q => absurd q (by omega)) (fun _ => ⟨hinS, br_le (w + D (S - u)) v (tI (by omega)) (tI (by omega)) (fun hle => nm_r e3 ?_) (fun hlt => ⟨hinS, nm_r rfl ⟨hinS, nm_r rfl (nm_r e3 ?_)⟩⟩)⟩)
        · refine ih (u + 1) (by omega) (by omega) most' group' v g hfr hv ?_
          rcases hinv with ⟨h1, h2⟩ | ⟨h1, h2, h3, h4, h5⟩
          · omega
          · refine Or.inr ⟨⟨h1.1, by omega⟩, h2, h3, h4, fun T' w' a b c d => ?_⟩
            by_cases e : T' = u
            · rw [e] at d ⊢
              rw [hw] at d; cases d
              exact ⟨hle, fun he => by omega⟩
            · exact h5 T' w' (by omega) b c d
        · refine ih (u + 1) (by omega) (by omega) _ _ (w + D (S - u)) u ?_ ?_ (Or.inr ⟨⟨by omega, by omega⟩, ?_, ⟨hus, hul⟩, ⟨w, hw, rfl⟩, ?_⟩)
          · intro i hi
            unfold upd
            rw [if_neg hi, if_neg hi]
            exact hfr i hi
          · unfold upd; rw [if_pos rfl]
          · unfold upd; rw [if_pos rfl]
          · intro T' w' a b c d
            by_cases e : T' = u
            · rw [e] at d ⊢
              rw [hw] at d; cases d
              exact ⟨Int.le_refl _, fun _ => Nat.le_refl _⟩
            · rcases hinv with ⟨h1, h2⟩ | ⟨h1, h2, h3, h4, h5⟩
              · exact absurd d (h2 T' w' (by omega) b c)
              · have := h5 T' w' (by omega) b c d
                exact ⟨by omega, fun q => by omega⟩
  refine loop S 1 (by omega) (by omega) _ _ (-1) 0 (fun i hi => ?_) ?_ (Or.inl ⟨rfl, fun T' w a b c => ?_⟩)
  · unfold upd
    rw [if_neg hi]
    exact ⟨rfl, rfl⟩
  · unfold upd; rw [if_pos rfl]; rfl
  · have := tb_pos c; omega
/-- the sets that are settled below n -/
def STx (T : Tn) (n : Nat) (D : Nat → Int) (G : Nat → Nat) (most group : Nat → Int32) : Prop := D 0 = 0 ∧ (∀ R, R < n → (R &&& pmk T) = R → (most R = iI (D R) ∧ 0 ≤ D R ∧ D R ≤ 10000 * (R : Int)) ∧ (0 < R → group R = iI (G R : Int) ∧ DPs (gW T) D G R))
theorem sp_X2_settle {T : Tn} (hT : Tok T) {ranks : Nat → Int64} (hr : RKs T 63 ranks) {purse : Nat → Int32} (hp : pN purse T) {most group : Nat → Int32} (hm : most 0 = 0)
    {Q : (Nat → Int32) → (Nat → Int32) → Int32 → Prop} (hQ : ∀ (most' group' : Nat → Int32) (D : Nat → Int) (G : Nat → Nat), most' 0 = 0 → STx T 16 D G most' group' → Q group' most' (iI (pmk T : Int))) : wp_X2_settle purse ranks group most Q := by
  unfold wp_X2_settle
  refine ⟨5, ?_⟩
  have loop1 : ∀ (r p : Nat), p + r = 4 → wl_X2_settle_7 purse (fun k => wx_X2_settle_7 purse ranks group most k Q) (r + 1) (iI (p : Int)) (iI (pk T p : Int)) := by
    intro r
    induction r with
    | zero =>
      intro p hp4
      show wb_X2_settle_7 _ _ _ _ _
      unfold wb_X2_settle_7
      refine br_le 4 (p : Int) rfl (tN (by omega)) (fun _ => ?_) (fun q => absurd q (by omega))
      have e : p = 4 := by omega
      subst e
      show wx_X2_settle_7 _ _ _ _ _ _
      unfold wx_X2_settle_7
      have hpm : pmk T < 16 := pkm_lt T 4 (Nat.le_refl 4)
      show ∃ n, wl_X2_settle_40 purse ranks (iI (pmk T : Int)) (fun a b => wx_X2_settle_40 a b (iI (pmk T : Int)) Q) n 1 group most
      refine ⟨16, ?_⟩
      have loop2 : ∀ (r S : Nat), S + r = 16 → 1 ≤ S → ∀ (D : Nat → Int) (G : Nat → Nat) (most group : Nat → Int32), most 0 = 0 → STx T S D G most group → wl_X2_settle_40 purse ranks (iI (pmk T : Int)) (fun a b => wx_X2_settle_40 a b (iI (pmk T : Int)) Q) (r + 1) (iI (S : Int)) group most := by
        intro r
        induction r with
        | zero =>
          intro S hS hS1 D G most group hm0 hst
          show wb_X2_settle_40 _ _ _ _ _ _ _ _
          unfold wb_X2_settle_40
          refine br_le 16 (S : Int) rfl (tN (by omega)) (fun _ => ?_) (fun q => absurd q (by omega))
          have e : S = 16 := by omega
          subst e
          exact hQ most group D G hm0 hst
        | succ r ih =>
          intro S hS hS1 D G most group hm0 hst
          have e3 : iI (S : Int) + 1 = iI ((S + 1 : Nat) : Int) := iI_add _ 1
          show wb_X2_settle_40 _ _ _ _ _ _ _ _
          unfold wb_X2_settle_40
          refine br_le 16 (S : Int) rfl (tN (by omega)) (fun q => absurd q (by omega)) (fun _ => br_pn (an_t (pmk T) hpm S (by omega)) (fun q => nm_r e3 (ih (S + 1) (by omega) (by omega) D G most group hm0 ⟨hst.1, fun R hR hsub => ?_⟩)) (fun hsub => ?_))
          · by_cases e : R = S
            · rw [e] at hsub; exact absurd hsub q
            · exact hst.2 R (by omega) hsub
          · refine sp_X2_settleSet hT hr hp hpm (show S < 16 by omega) hS1 hsub (fun R hR hs => (hst.2 R hR hs).1) (fun most' group' v g h0 h1 hd hfr hv hg => nm_r e3 (ih (S + 1) (by omega) (by omega) (upN D S v) (upN G S g) most' group' ?_ ⟨?_, ?_⟩))
            · rw [(hfr 0 (by omega)).1]; exact hm0
            · unfold upN; rw [if_neg (by omega)]; exact hst.1
            · intro R hR hs
              have dlt : ∀ R', R' < S → upN D S v R' = D R' := fun R' h => by unfold upN; rw [if_neg (by omega)]
              by_cases e : R = S
              · subst e
                have eD : upN D R v R = v := if_pos rfl
                have eG : upN G R g R = g := if_pos rfl
                refine ⟨⟨by rw [eD]; exact hv, by rw [eD]; exact h0, by rw [eD]; exact h1⟩, fun _ => ⟨by rw [eG]; exact hg, ?_⟩⟩
                unfold DPs
                rw [eD, eG]
                obtain ⟨d1, ⟨w, d2, d3⟩, d4⟩ := hd
                have p1 := tb_pos d1.2
                refine ⟨d1, ⟨w, d2, by rw [dlt _ (by omega)]; exact d3⟩, fun T' w' a b c => ?_⟩
                have p2 := tb_pos b
                rw [dlt _ (by omega)]
                exact d4 T' w' a b c
              · have h7 := hst.2 R (by omega) hs
                have eG : upN G S g R = G R := if_neg e
                have hR2 : R < S := by omega
                refine ⟨?_, fun hR0 => ?_⟩
                · rw [dlt R hR2, (hfr R e).1]; exact h7.1
                · obtain ⟨h8, d1, ⟨w, d2, d3⟩, d4⟩ := h7.2 hR0
                  refine ⟨by rw [eG, (hfr R e).2]; exact h8, ?_⟩
                  unfold DPs
                  rw [eG, dlt R hR2]
                  refine ⟨d1, ⟨w, d2, by rw [dlt _ (by omega)]; exact d3⟩, fun T' w' a b c => ?_⟩
                  rw [dlt _ (by omega)]
                  exact d4 T' w' a b c
      refine loop2 15 1 (by omega) (by omega) (fun _ => 0) (fun _ => 0) most group hm ⟨rfl, fun R hR hsub => ?_⟩
      have e : R = 0 := by omega
      subst e
      exact ⟨⟨hm, Int.le_refl 0, Int.le_refl 0⟩, fun q => absurd q (by omega)⟩
    | succ r ih =>
      intro p hp4
      have e3 : iI (p : Int) + 1 = iI ((p + 1 : Nat) : Int) := iI_add _ 1
      show wb_X2_settle_7 _ _ _ _ _
      unfold wb_X2_settle_7
      have hI := ih (p + 1) (by omega)
      rw [pk] at hI
      have gp : pO T (p : Int) = true ↔ 0 ≤ tQ T p := by
        rw [pO_iff]
        have e : ((p : Int)).toNat = p := by omega
        rw [e]
        exact ⟨fun h => h.2, fun h => ⟨by omega, h⟩⟩
      refine br_le 4 (p : Int) rfl (tN (by omega)) (fun q => absurd q (by omega)) (fun _ => sp_X5_pO hT hp ?_)
      rw [tN (by omega)]
      refine bz_e (fun q => nm_r e3 ?_) (fun q => nm_r (or_t (pk T p) (pkm_lt T p (by omega)) p (by omega)).1 (nm_r e3 ?_))
      · rw [if_neg (fun g => q (gp.mpr g))] at hI; exact hI
      · rw [if_pos (gp.mp q)] at hI; exact hI
  exact loop1 4 0 (by omega)
theorem lo_X2_beside {G : Nat → Nat} {pm p : Nat} (hpm : pm < 16) (hp : p < 4) {group : Nat → Int32} (hg : ∀ S, 0 < S → S < 16 → (S &&& pm) = S → group S = iI (G S : Int) ∧ (G S &&& S) = G S ∧ (G S).testBit (lea S) = true) {K : Prop} {Q : Int32 → Prop} : ∀ (c : List Nat) (S k : Nat), S < 16 → (S &&& pm) = S → gch G S c → c.length + k ≤ 4 → S.testBit p = true → Q (iI (wkc S c p : Int)) → wl_X2_leastBeside_7 (iI (p : Int)) group K Q (5 - k) (iI (S : Int)) (iI (k : Int)) := by
  intro c
  induction c with
  | nil =>
    intro S k _ _ h _ hb
    have h : S = 0 := h
    have := tb_pos hb
    omega
  | cons T c ih =>
    intro S k hS hsub hch hl hb hq
    rw [List.length_cons] at hl
    obtain ⟨h1, h2⟩ := hch
    subst h1
    obtain ⟨g1, g2, g3⟩ := hg S (tb_pos hb) hS hsub
    have p2 := sub_le g2
    have hinS : vp_in (iI (S : Int)) 16 := iI_in (by omega) (by omega) (by omega)
    rw [show 5 - k = (5 - (k + 1)) + 1 by omega]
    show wb_X2_leastBeside_7 _ _ _ _ _ _ _
    unfold wb_X2_leastBeside_7
    rw [iI_clN (by omega), g1]
    rw [wkc] at hq
    refine br_le 4 (k : Int) rfl (tN (by omega)) (fun q => absurd q (by omega)) (fun _ => ⟨hinS, br_pn (bit_t (G S) (by omega) p (by omega)) (fun q => ⟨hinS, nm_r (df_t hS (show G S < 16 by omega) g2).1 (nm_r (e' := iI ((k + 1 : Nat) : Int)) (iI_add _ 1) ?_)⟩) (fun q => sp_X2_leastIn hS ?_)⟩)
    · rw [if_neg q] at hq
      exact ih (S - G S) (k + 1) (by omega) (sub_ok pm hpm S hS (G S) (by omega) hsub g2).1 h2 (by omega) ((df_t hS (show G S < 16 by omega) g2).2 p hp hb q) hq
    · rw [if_pos q] at hq; exact hq
def a_together (T : Tn) (z : Int) : Int := if z = -1 then (tgs (gW T) (pmk T) 256).1 else if pO T z = true then (wn (tgs (gW T) (pmk T) 256).2 z.toNat : Int) else -1
theorem sp_X6_together {T : Tn} {less price stock worth purse : Nat → Int32} (h : TX T less price stock worth) (hp : pN purse T) {fw reach x pr : Int32} {gains ranks : Nat → Int64} (hs : SHx T fw ranks) {most group : Nat → Int32} (hm : most 0 = 0) {Q : Int32 → Int32 → (Nat → Int64) → (Nat → Int64) → Int32 → (Nat → Int32) → (Nat → Int32) → Int32 → Prop} (hQ : ∀ fw gains ranks reach group most pr, SHx T fw ranks → most 0 = 0 → Q (iI (a_together T x.toInt)) fw gains ranks reach group most pr) : wp_X6_together x fw gains ranks reach group most pr less price purse stock worth Q := by
  have hpm : pmk T < 16 := pkm_lt T 4 (Nat.le_refl 4)
  unfold wp_X6_together
  unfold a_together at hQ
  have res : ∀ {D : Nat → Int} {G : Nat → Nat} {most group : Nat → Int32}, STx T 16 D G most group → ∃ c, gch G (pmk T) c ∧ c.length ≤ 4 ∧ D (pmk T) = (tgs (gW T) (pmk T) 256).1 ∧ ∀ p, p < 4 → (pmk T).testBit p = true → wkc (pmk T) c p = wn (tgs (gW T) (pmk T) 256).2 p := fun hst => tgs_opt (fun T' w hw => (gW_b h.1 T' w hw).1) hpm hst.1 (fun S h1 h2 h3 => ((hst.2 S h2 h3).2 h1).2)
  refine br_eq x.toInt (-1) rfl rfl (fun hx => ?_) (fun hx => sp_X5_pO h.1 hp (bz_n (fun hy => ?_) (fun hy => ?_)))
  · rw [if_pos hx] at hQ
    refine sp_X6_market h hs (fun gains ranks reach hr => sp_X2_settle h.1 hr hp hm (fun most group D G h0 hst => br_ne x.toInt (-1) rfl rfl (fun q => absurd hx q) (fun _ => ?_)))
    obtain ⟨c, -, -, c3, -⟩ := res hst
    unfold wp_X2_mostWorth
    refine ⟨iI_in (by omega) (by omega) (by omega), ?_⟩
    rw [iI_clN (by omega), (hst.2 (pmk T) hpm (Nat.and_self _)).1.1, c3]
    exact hQ _ _ _ _ _ _ _ (SH63 hr) h0
  · rw [if_neg hx, if_pos hy] at hQ
    refine sp_X6_market h hs (fun gains ranks reach hr => sp_X2_settle h.1 hr hp hm (fun most group D G h0 hst => br_ne x.toInt (-1) rfl rfl (fun _ => ?_) (fun q => absurd q hx)))
    obtain ⟨c, c1, c2, -, c4⟩ := res hst
    have gx := ((pO_iff T _).mp hy).1
    have ex := nat_of (x := x) gx.1
    have hb : (pmk T).testBit x.toInt.toNat = true := (pO_pk T (by omega)).mp (by rw [show ((x.toInt.toNat : Nat) : Int) = x.toInt by omega]; exact hy)
    rw [← c4 x.toInt.toNat (by omega) hb] at hQ
    have hp4 : x.toInt.toNat < 4 := by omega
    generalize x.toInt.toNat = p at *
    rw [ex]
    unfold wp_X2_leastBeside
    exact ⟨5, lo_X2_beside hpm hp4 (fun S h1 h2 h3 => ⟨((hst.2 S h2 h3).2 h1).1, ((hst.2 S h2 h3).2 h1).2.1.1, ((hst.2 S h2 h3).2 h1).2.1.2⟩) c (pmk T) 0 hpm (Nat.and_self _) c1 (by omega) hb (hQ _ _ _ _ _ _ _ (SH63 hr) h0)⟩
  · rw [if_neg hx, if_neg hy] at hQ
    exact hQ _ _ _ _ _ _ _ hs hm
