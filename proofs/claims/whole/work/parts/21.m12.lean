/-! the sights; picking the i-th of a span -/
def SG (T : Tn) (cnt how thg : Nat → Int32) (n : Int32) : Prop := aN cnt (sC T) 6 ∧ aN how (sH T) 6 ∧ aN thg (sT T) 6 ∧ n = iI (sN T : Int)
/-- does sight k hold in the best basket of s -/
def hld (T : Tn) (s : Int) (k : Nat) : Bool := if sH T k = 0 then decide (kO T s (sT T k) = (sC T k : Int)) else decide ((sC T k : Int) < kO T s (sT T k))
def fO (T : Tn) (s : Int) : Bool := cO T s && decide (∀ k, k < sN T → hld T s k = true)
def pkf (c : Int → Bool) (i : Int) : Nat → Int → Int → Int
  | 0, _, n => if i = -1 then n else -6
  | r + 1, s, n => if c s = true then (if n = i then s else pkf c i r (s + 1) (n + 1)) else pkf c i r (s + 1) n
def a_pick (c : Int → Bool) (a b i : Int) : Int := if 0 ≤ a ∧ a ≤ b ∧ b ≤ 999 then pkf c i (b - a + 1).toNat a 0 else -2
def a_stuck (T : Tn) : Int → Int → Int → Int := a_pick (fun s => !cO T s)
def a_fits (T : Tn) : Int → Int → Int → Int := a_pick (fO T)
theorem sp_X5_sightHolds {T : Tn} {cnt how thg : Nat → Int32} {n : Int32} (hT : Tok T) (hg : SG T cnt how thg n) {ranks : Nat → Int64} (hr : RKs T 63 ranks) {x : Int32} (hx : 0 ≤ x.toInt ∧ x.toInt ≤ 999) {k : Nat} (hk : k < 6) {Q : Int32 → Prop} (hQ : Q (bz (hld T x.toInt k = true))) : wp_X5_sightHolds (iI (k : Int)) x ranks cnt how thg Q := by
  unfold wp_X5_sightHolds
  have hin : vp_in (iI (k : Int)) 6 := iI_in (by omega) (by omega) (by omega)
  have hb := hT.2.2.1 k hk
  have hkb := kO_b hT x.toInt (sT T k)
  rw [iI_clN (by omega), hg.1 k hk, hg.2.1 k hk, hg.2.2.1 k hk]
  refine ⟨hin, sp_X3_kO hT hr hx (by omega) ⟨hin, ?_⟩⟩
  unfold hld at hQ
  refine br_ne (sH T k : Int) 0 (tN (by omega)) rfl (fun h => ⟨hin, ?_⟩) (fun h => ⟨hin, ?_⟩)
  · rw [if_neg (by omega)] at hQ
    refine br_le (kO T x.toInt (sT T k)) (sC T k : Int) (tI (by omega)) (tN (by omega)) (fun q => ?_) (fun q => ?_)
    · rw [bz_f (by rw [decide_eq_true_iff]; omega)] at hQ; exact hQ
    · rw [bz_t (by rw [decide_eq_true_iff]; omega)] at hQ; exact hQ
  · rw [if_pos (by omega)] at hQ
    refine br_ne (kO T x.toInt (sT T k)) (sC T k : Int) (tI (by omega)) (tN (by omega)) (fun q => ?_) (fun q => ?_)
    · rw [bz_f (by rw [decide_eq_true_iff]; omega)] at hQ; exact hQ
    · rw [bz_t (by rw [decide_eq_true_iff]; omega)] at hQ; exact hQ
theorem sp_X6_fitsSights {T : Tn} {cnt how thg : Nat → Int32} {n : Int32} (hT : Tok T) (hg : SG T cnt how thg n) {ranks : Nat → Int64} (hr : RKs T 63 ranks) {x : Int32} {Q : Int32 → Prop} (hQ : Q (bz (fO T x.toInt = true))) : wp_X6_fitsSights x ranks cnt how thg n Q := by
  unfold wp_X6_fitsSights
  have hn6 := hT.2.2.2
  refine sp_X3_cO hT hr (bz_n (fun h => ?_) (fun h => ?_))
  · have hx := ((cO_iff T _).mp h).1
    have e : fO T x.toInt = decide (∀ k, k < sN T → hld T x.toInt k = true) := by unfold fO; rw [h]; rfl
    rw [e] at hQ
    rw [hg.2.2.2]
    refine ⟨sN T + 1, ?_⟩
    have loop : ∀ r j, j + r = sN T → (∀ k, k < j → hld T x.toInt k = true) → wl_X6_fitsSights_12 x ranks cnt how thg (iI (sN T : Int)) (wx_X6_fitsSights_12 Q) Q (r + 1) (iI (j : Int)) := by
      intro r
      induction r with
      | zero =>
        intro j hj hall
        show wb_X6_fitsSights_12 _ _ _ _ _ _ _ _ _ _
        unfold wb_X6_fitsSights_12
        refine br_le (sN T : Int) (j : Int) (tN (by omega)) (tN (by omega)) (fun _ => ?_) (fun q => absurd q (by omega))
        rw [bz_t (by rw [decide_eq_true_iff]; intro k hk; exact hall k (by omega))] at hQ
        exact hQ
      | succ r ih =>
        intro j hj hall
        show wb_X6_fitsSights_12 _ _ _ _ _ _ _ _ _ _
        unfold wb_X6_fitsSights_12
        refine br_le (sN T : Int) (j : Int) (tN (by omega)) (tN (by omega)) (fun q => absurd q (by omega)) (fun _ => ?_)
        refine sp_X5_sightHolds (n := n) hT hg hr hx (by omega) (bz_n (fun q => nm_r (e' := iI ((j + 1 : Nat) : Int)) (iI_add _ 1) (ih (j + 1) (by omega) ?_)) (fun q => ?_))
        · intro k hk
          by_cases hkj : k = j
          · rw [hkj]; exact q
          · exact hall k (by omega)
        · rw [bz_f (by rw [decide_eq_true_iff]; intro g; exact q (g j (by omega)))] at hQ
          exact hQ
    exact loop (sN T) 0 (by omega) (fun k hk => absurd hk (by omega))
  · rw [bz_f (by unfold fO; rw [Bool.and_eq_true]; exact fun q => h q.1)] at hQ
    exact hQ
theorem sp_X6_pick {T : Tn} {less price stock worth cnt how thg : Nat → Int32} {n : Int32} (h : TX T less price stock worth) (hg : SG T cnt how thg n) {fw reach x y z w : Int32} {gains ranks : Nat → Int64} (hs : SHx T fw ranks) (hxy : 0 ≤ x.toInt ∧ x.toInt ≤ y.toInt ∧ y.toInt ≤ 999) {c : Int → Bool} (hw : (w = 1 ∧ c = (fun s => !cO T s)) ∨ (w = 0 ∧ c = fO T)) {Q : Int32 → Int32 → (Nat → Int64) → (Nat → Int64) → Int32 → Prop} (hQ : ∀ fw gains ranks reach, SHx T fw ranks → Q (iI (pkf c z.toInt (y.toInt - x.toInt + 1).toNat x.toInt 0)) fw gains ranks reach) : wp_X6_pick x y z w fw gains ranks reach less price cnt how thg n stock worth Q := by
  unfold wp_X6_pick
  refine sp_X6_market h hs (fun gains ranks reach hr => ⟨(y.toInt - x.toInt + 1).toNat + 1, ?_⟩)
  have loop : ∀ (r : Nat) (s m : Int), s + (r : Int) = y.toInt + 1 → 0 ≤ s → 0 ≤ m ∧ m ≤ s → (∀ fw gains ranks reach, SHx T fw ranks → Q (iI (pkf c z.toInt r s m)) fw gains ranks reach) → wl_X6_pick_12 y z w (iI 63) gains ranks reach cnt how thg n (fun k => wx_X6_pick_12 z k (iI 63) gains ranks reach Q) Q (r + 1) (iI m) (iI s) := by
    intro r
    induction r with
    | zero =>
      intro s m hsr h0 hm hq
      show wb_X6_pick_12 _ _ _ _ _ _ _ _ _ _ _ _ _ _ _ _
      unfold wb_X6_pick_12
      refine br_lt y.toInt s rfl (tI (by omega)) (fun _ => ?_) (fun q => absurd q (by omega))
      show wx_X6_pick_12 _ _ _ _ _ _ _
      unfold wx_X6_pick_12
      rw [pkf] at hq
      refine br_ne z.toInt (-1) rfl rfl (fun q => ?_) (fun q => ?_)
      · rw [if_neg q] at hq; exact hq _ _ _ _ (SH63 hr)
      · rw [if_pos q] at hq; exact hq _ _ _ _ (SH63 hr)
    | succ r ih =>
      intro s m hsr h0 hm hq
      have e3 : iI s + 1 = iI (s + 1) := iI_add _ 1
      have e4 : iI m + 1 = iI (m + 1) := iI_add _ 1
      show wb_X6_pick_12 _ _ _ _ _ _ _ _ _ _ _ _ _ _ _ _
      unfold wb_X6_pick_12
      rw [pkf] at hq
      refine br_lt y.toInt s rfl (tI (by omega)) (fun q => absurd q (by omega)) (fun _ => ?_)
      rcases hw with ⟨rfl, rfl⟩ | ⟨rfl, rfl⟩
      · refine ⟨fun q => absurd q (by decide), fun _ => sp_X3_cO h.1 hr ?_⟩
        rw [tI (by omega)]
        refine bz_n (fun q => nm_r e3 (ih (s + 1) m (by omega) (by omega) (by omega) ?_)) (fun q => br_ne m z.toInt (tI (by omega)) rfl (fun g => nm_r e4 (nm_r e3 (ih (s + 1) (m + 1) (by omega) (by omega) (by omega) ?_))) (fun g => ?_))
        · rw [if_neg (by show ¬ (!cO T s) = true; rw [q]; decide)] at hq; exact hq
        · rw [if_pos (by simpa using q), if_neg g] at hq; exact hq
        · rw [if_pos (by simpa using q), if_pos g] at hq; exact hq _ _ _ _ (SH63 hr)
      · refine ⟨fun _ => sp_X6_fitsSights h.1 hg hr ?_, fun q => absurd rfl q⟩
        rw [tI (by omega)]
        refine bz_e (fun q => ?_) (fun q => ?_)
        · rw [bz_f q]
          refine ⟨fun _ => nm_r e3 (ih (s + 1) m (by omega) (by omega) (by omega) ?_), fun g => absurd rfl g⟩
          rw [if_neg q] at hq; exact hq
        · rw [bz_t q]
          refine br_ne m z.toInt (tI (by omega)) rfl (fun g => ⟨fun g2 => absurd g2 (by decide), fun _ => nm_r e4 (nm_r e3 (ih (s + 1) (m + 1) (by omega) (by omega) (by omega) ?_))⟩) (fun g => ?_)
          · rw [if_pos q, if_neg g] at hq; exact hq
          · rw [if_pos q, if_pos g] at hq; exact hq _ _ _ _ (SH63 hr)
  have := loop (y.toInt - x.toInt + 1).toNat x.toInt 0 (by omega) hxy.1 (by omega) hQ
  rw [← iI_of x] at this
  exact this
theorem sp_X6_stuck {T : Tn} {less price stock worth cnt how thg : Nat → Int32} {n : Int32} (h : TX T less price stock worth) (hg : SG T cnt how thg n) {fw reach x y z : Int32} {gains ranks : Nat → Int64} (hs : SHx T fw ranks) {Q : Int32 → Int32 → (Nat → Int64) → (Nat → Int64) → Int32 → Prop} (hQ : ∀ fw gains ranks reach, SHx T fw ranks → Q (iI (a_stuck T x.toInt y.toInt z.toInt)) fw gains ranks reach) : wp_X6_stuck x y z fw gains ranks reach less price cnt how thg n stock worth Q := by
  unfold wp_X6_stuck
  unfold a_stuck a_pick at hQ
  refine sp_X6_isSpan (bz_e (fun hx => ?_) (fun hx => ?_))
  · rw [if_neg hx] at hQ; exact hQ _ _ _ _ hs
  · rw [if_pos hx] at hQ; exact sp_X6_pick h hg hs hx (Or.inl ⟨rfl, rfl⟩) hQ
theorem sp_X6_fits {T : Tn} {less price stock worth cnt how thg : Nat → Int32} {n : Int32} (h : TX T less price stock worth) (hg : SG T cnt how thg n) {fw reach x y z : Int32} {gains ranks : Nat → Int64} (hs : SHx T fw ranks) {Q : Int32 → Int32 → (Nat → Int64) → (Nat → Int64) → Int32 → Prop} (hQ : ∀ fw gains ranks reach, SHx T fw ranks → Q (iI (a_fits T x.toInt y.toInt z.toInt)) fw gains ranks reach) : wp_X6_fits x y z fw gains ranks reach less price cnt how thg n stock worth Q := by
  unfold wp_X6_fits
  unfold a_fits a_pick at hQ
  refine sp_X6_isSpan (bz_e (fun hx => ?_) (fun hx => ?_))
  · rw [if_neg hx] at hQ; exact hQ _ _ _ _ hs
  · rw [if_pos hx] at hQ; exact sp_X6_pick h hg hs hx (Or.inr ⟨rfl, rfl⟩) hQ
theorem sp_X7_stuck {T : Tn} {less price stock worth best many : Nat → Int32} (h : TX T less price stock worth) {x y z : Int32} {Q : Int32 → (Nat → Int32) → (Nat → Int32) → Prop} (hQ : ∀ best many, Q (iI (a_stuck T x.toInt y.toInt z.toInt)) best many) : wp_X7_stuck x y z best less many price stock worth Q := by
  unfold wp_X7_stuck
  unfold a_stuck a_pick at hQ
  refine sp_X7_isSpan (bz_n (fun hx => ?_) (fun hx => ?_))
  · rw [if_pos hx] at hQ
    refine sp_X7_fillAll h.1 h.2.1 h.2.2.1 h.2.2.2.1 h.2.2.2.2 (fun best many hB => ⟨(y.toInt - x.toInt + 1).toNat + 1, ?_⟩)
    have hb := hB 0 (by omega)
    have loop : ∀ (r : Nat) (s m : Int), s + (r : Int) = y.toInt + 1 → 0 ≤ s → 0 ≤ m ∧ m ≤ s → (∀ best many, Q (iI (pkf (fun s => !cO T s) z.toInt r s m)) best many) → wl_X7_stuck_21 y z best many (fun k => wx_X7_stuck_21 z k best many Q) Q (r + 1) (iI m) (iI s) := by
      intro r
      induction r with
      | zero =>
        intro s m hsr h0 hm hq
        show wb_X7_stuck_21 _ _ _ _ _ _ _ _ _
        unfold wb_X7_stuck_21
        refine br_lt y.toInt s rfl (tI (by omega)) (fun _ => ?_) (fun q => absurd q (by omega))
        show wx_X7_stuck_21 _ _ _ _ _
        unfold wx_X7_stuck_21
        rw [pkf] at hq
        refine br_ne z.toInt (-1) rfl rfl (fun q => ?_) (fun q => ?_)
        · rw [if_neg q] at hq; exact hq _ _
        · rw [if_pos q] at hq; exact hq _ _
      | succ r ih =>
        intro s m hsr h0 hm hq
        have e3 : iI s + 1 = iI (s + 1) := iI_add _ 1
        have e4 : iI m + 1 = iI (m + 1) := iI_add _ 1
        show wb_X7_stuck_21 _ _ _ _ _ _ _ _ _
        unfold wb_X7_stuck_21
        rw [pkf] at hq
        refine br_lt y.toInt s rfl (tI (by omega)) (fun q => absurd q (by omega)) (fun _ => sp_X7_cO h.1 hb ?_)
        rw [tI (by omega)]
        refine bz_n (fun q => nm_r e3 (ih (s + 1) m (by omega) (by omega) (by omega) ?_)) (fun q => br_ne m z.toInt (tI (by omega)) rfl (fun g => nm_r e4 (nm_r e3 (ih (s + 1) (m + 1) (by omega) (by omega) (by omega) ?_))) (fun g => ?_))
        · rw [if_neg (by show ¬ (!cO T s) = true; rw [q]; decide)] at hq; exact hq
        · rw [if_pos (by simpa using q), if_neg g] at hq; exact hq
        · rw [if_pos (by simpa using q), if_pos g] at hq; exact hq _ _
    have := loop (y.toInt - x.toInt + 1).toNat x.toInt 0 (by omega) hx.1 (by omega) hQ
    rw [← iI_of x] at this
    exact this
  · rw [if_neg hx] at hQ; exact hQ _ _
/-- the reference lays the best basket of a sum that comes out -/
theorem sp_X7_lay {T : Tn} {less price stock worth best many lies : Nat → Int32} (h : TX T less price stock worth) (hB : ∀ t, t ≤ 6 → MB T 63 t best many) {x : Int32} (hx : cO T x.toInt = true) {Q : (Nat → Int32) → Prop} (hQ : ∀ lies : Nat → Int32, (∀ i, i < 6 → lies i = iI (kO T x.toInt i)) → Q lies) : wp_X7_layBest x best less lies price worth Q := by
  have h2 := (cO_iff T _).mp hx
  rw [nat_of h2.1.1]
  cases hk : rk T 63 x.toInt.toNat with
  | none => rw [hk] at h2; exact absurd h2.2 (by decide)
  | some r =>
    refine sp_X7_layBest h.1 h.2.1 h.2.2.2.1 h.2.2.2.2 hB (by omega) hk (fun lies hl => hQ lies (fun i hi => ?_))
    rw [hl i hi]
    unfold kO
    rw [hk]
theorem zb_0 : narrow .boolean (.int 0) = .int 0 := rfl
theorem zb_1 : narrow .boolean (.int 1) = .int 1 := rfl
theorem zb_bz (p : Prop) [Decidable p] : narrow .boolean (.int (bz p)) = .int (bz p) := by
  by_cases h : p
  · rw [bz_t h]; rfl
  · rw [bz_f h]; rfl
theorem sp_X7_isAsSeen {T : Tn} {less price stock worth best many lies cnt how thg : Nat → Int32} {n : Int32} (h : TX T less price stock worth) (hg : SG T cnt how thg n) (hB : ∀ t, t ≤ 6 → MB T 63 t best many) {x : Int32} {Q : Int32 → (Nat → Int32) → Prop} (hQ : ∀ lies, Q (bz (fO T x.toInt = true)) lies) : wp_X7_isAsSeen x best less lies price how cnt thg n worth Q := by
  unfold wp_X7_isAsSeen
  have hT := h.1
  have hn6 := hT.2.2.2
  refine sp_X7_cO hT (hB 0 (by omega)) (bz_n (fun hc => ?_) (fun hc => ?_))
  · refine sp_X7_lay h hB hc (fun lies hl => ?_)
    have e : fO T x.toInt = decide (∀ k, k < sN T → hld T x.toInt k = true) := by unfold fO; rw [hc]; rfl
    rw [e] at hQ
    rw [hg.2.2.2]
    refine ⟨sN T + 1, ?_⟩
    have loop : ∀ r j, j + r = sN T → wl_X7_isAsSeen_19 lies how cnt thg (iI (sN T : Int)) (fun k => wx_X7_isAsSeen_19 k lies Q) (r + 1) (bz (∀ k, k < j → hld T x.toInt k = true)) (iI (j : Int)) := by
      intro r
      induction r with
      | zero =>
        intro j hj
        show wb_X7_isAsSeen_19 _ _ _ _ _ _ _ _ _
        unfold wb_X7_isAsSeen_19
        refine br_le (sN T : Int) (j : Int) (tN (by omega)) (tN (by omega)) (fun _ => ?_) (fun q => absurd q (by omega))
        show wx_X7_isAsSeen_19 _ _ _
        unfold wx_X7_isAsSeen_19
        refine ⟨zb_bz _, ?_⟩
        have hj2 : j = sN T := by omega
        subst hj2
        have e2 : bz (decide (∀ k, k < sN T → hld T x.toInt k = true) = true) = bz (∀ k, k < sN T → hld T x.toInt k = true) := by
          by_cases g : ∀ k, k < sN T → hld T x.toInt k = true
          · rw [bz_t g, bz_t (by rw [decide_eq_true_iff]; exact g)]
          · rw [bz_f g, bz_f (by rw [decide_eq_true_iff]; exact g)]
        have := hQ lies
        rw [e2] at this
        exact this
      | succ r ih =>
        intro j hj
        have hj6 : j < 6 := by omega
        have hb := hT.2.2.1 j hj6
        have hin : vp_in (iI (j : Int)) 6 := iI_in (by omega) (by omega) (by omega)
        have hkb := kO_b hT x.toInt (sT T j)
        have e3 : iI (j : Int) + 1 = iI ((j + 1 : Nat) : Int) := iI_add _ 1
        have hI := ih (j + 1) (by omega)
        show wb_X7_isAsSeen_19 _ _ _ _ _ _ _ _ _
        unfold wb_X7_isAsSeen_19
        refine br_le (sN T : Int) (j : Int) (tN (by omega)) (tN (by omega)) (fun q => absurd q (by omega)) (fun _ => ⟨hin, ?_⟩)
        rw [iI_clN (by omega), hg.1 j hj6, hg.2.1 j hj6, hg.2.2.1 j hj6, iI_clN (by omega)]
        refine ⟨iI_in (by omega) (by omega) (by omega), nm_r (e' := iI (kO T x.toInt (sT T j))) (hl _ (by omega)) ?_⟩
        have stp : ∀ b : Bool, (b = true ↔ hld T x.toInt j = true) → (∀ k, k < j → hld T x.toInt k = true) → bz (∀ k, k < j + 1 → hld T x.toInt k = true) = bz (b = true) := by
          intro b hb2 hall
          by_cases g : b = true
          · rw [bz_t g, bz_t]
            intro k hk
            by_cases hkj : k = j
            · rw [hkj]; exact hb2.mp g
            · exact hall k (by omega)
          · rw [bz_f g, bz_f]
            intro q
            exact g (hb2.mpr (q j (by omega)))
        refine bz_e (fun q => nm_r e3 ?_) (fun q => ⟨hin, ?_⟩)
        · rw [bz_f (fun g => q (fun k hk => g k (by omega)))] at hI
          exact hI
        · refine br_ne (sH T j : Int) 0 (tN (by omega)) rfl (fun g => ⟨hin, ?_⟩) (fun g => ⟨hin, ?_⟩)
          · refine br_le (kO T x.toInt (sT T j)) (sC T j : Int) (tI (by omega)) (tN (by omega)) (fun q2 => nm_r e3 ?_) (fun q2 => nm_r e3 ?_)
            · rw [stp false (by unfold hld; rw [if_neg (by omega), decide_eq_true_iff]; exact ⟨fun z => (by cases z), fun z => absurd z (by omega)⟩) q, bz_f (by decide)] at hI
              exact hI
            · rw [stp true (by unfold hld; rw [if_neg (by omega), decide_eq_true_iff]; exact ⟨fun _ => by omega, fun _ => rfl⟩) q, bz_t rfl] at hI
              exact hI
          · refine br_ne (kO T x.toInt (sT T j)) (sC T j : Int) (tI (by omega)) (tN (by omega)) (fun q2 => nm_r e3 ?_) (fun q2 => nm_r e3 ?_)
            · rw [stp false (by unfold hld; rw [if_pos (by omega), decide_eq_true_iff]; exact ⟨fun z => (by cases z), fun z => absurd z q2⟩) q, bz_f (by decide)] at hI
              exact hI
            · rw [stp true (by unfold hld; rw [if_pos (by omega), decide_eq_true_iff]; exact ⟨fun _ => q2, fun _ => rfl⟩) q, bz_t rfl] at hI
              exact hI
    have := loop (sN T) 0 (by omega)
    rw [bz_t (fun k hk => absurd hk (by omega))] at this
    exact this
  · have := hQ lies
    rw [bz_f (by unfold fO; rw [Bool.and_eq_true]; exact fun q => hc q.1)] at this
    exact this
theorem sp_X7_fits {T : Tn} {less price stock worth best many lies cnt how thg : Nat → Int32} {n : Int32} (h : TX T less price stock worth) (hg : SG T cnt how thg n) {x y z : Int32} {Q : Int32 → (Nat → Int32) → (Nat → Int32) → (Nat → Int32) → Prop} (hQ : ∀ best lies many, Q (iI (a_fits T x.toInt y.toInt z.toInt)) best lies many) : wp_X7_fits x y z best less lies many price how cnt thg n stock worth Q := by
  unfold wp_X7_fits
  unfold a_fits a_pick at hQ
  refine sp_X7_isSpan (bz_n (fun hx => ?_) (fun hx => ?_))
  · rw [if_pos hx] at hQ
    refine sp_X7_fillAll h.1 h.2.1 h.2.2.1 h.2.2.2.1 h.2.2.2.2 (fun best many hB => ⟨(y.toInt - x.toInt + 1).toNat + 1, ?_⟩)
    have loop : ∀ (r : Nat) (s m : Int) (lies : Nat → Int32), s + (r : Int) = y.toInt + 1 → 0 ≤ s → 0 ≤ m ∧ m ≤ s → (∀ best lies many, Q (iI (pkf (fO T) z.toInt r s m)) best lies many) → wl_X7_fits_21 y z best less many price how cnt thg n worth (fun k l => wx_X7_fits_21 z k best l many Q) Q (r + 1) (iI m) (iI s) lies := by
      intro r
      induction r with
      | zero =>
        intro s m lies hsr h0 hm hq
        show wb_X7_fits_21 _ _ _ _ _ _ _ _ _ _ _ _ _ _ _ _ _
        unfold wb_X7_fits_21
        refine br_lt y.toInt s rfl (tI (by omega)) (fun _ => ?_) (fun q => absurd q (by omega))
        show wx_X7_fits_21 _ _ _ _ _ _
        unfold wx_X7_fits_21
        rw [pkf] at hq
        refine br_ne z.toInt (-1) rfl rfl (fun q => ?_) (fun q => ?_)
        · rw [if_neg q] at hq; exact hq _ _ _
        · rw [if_pos q] at hq; exact hq _ _ _
      | succ r ih =>
        intro s m lies hsr h0 hm hq
        have e3 : iI s + 1 = iI (s + 1) := iI_add _ 1
        have e4 : iI m + 1 = iI (m + 1) := iI_add _ 1
        show wb_X7_fits_21 _ _ _ _ _ _ _ _ _ _ _ _ _ _ _ _ _
        unfold wb_X7_fits_21
        rw [pkf] at hq
        refine br_lt y.toInt s rfl (tI (by omega)) (fun q => absurd q (by omega)) (fun _ => sp_X7_isAsSeen h hg hB (fun lies => ?_))
        rw [tI (by omega)]
        refine bz_e (fun q => nm_r e3 (ih (s + 1) m _ (by omega) (by omega) (by omega) ?_)) (fun q => br_ne m z.toInt (tI (by omega)) rfl (fun g => nm_r e4 (nm_r e3 (ih (s + 1) (m + 1) _ (by omega) (by omega) (by omega) ?_))) (fun g => ?_))
        · rw [if_neg q] at hq; exact hq
        · rw [if_pos q, if_neg g] at hq; exact hq
        · rw [if_pos q, if_pos g] at hq; exact hq _ _ _
    have := loop (y.toInt - x.toInt + 1).toNat x.toInt 0 lies (by omega) hx.1 (by omega) hQ
    rw [← iI_of x] at this
    exact this
  · rw [if_neg hx] at hQ; exact hQ _ _ _
