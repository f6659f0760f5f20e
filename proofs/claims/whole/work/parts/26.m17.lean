/-! fault, basket -/
def tg (z : Int) : Nat := (z - 97).toNat
def oks (T : Tn) (z : Int) (c : Nat → Nat) : Bool := decide (((0 ≤ z - 97 ∧ z - 97 ≤ 5) ∧ 0 < tP T (tg z)) ∧ c (tg z) < tS T (tg z))
theorem oks_iff (T : Tn) (z : Int) (c : Nat → Nat) : oks T z c = true ↔ ((0 ≤ z - 97 ∧ z - 97 ≤ 5) ∧ 0 < tP T (tg z)) ∧ c (tg z) < tS T (tg z) := by
  unfold oks
  rw [decide_eq_true_iff]
/-- the run over the signs: the fault's place, or -6; the counts -/
def flt (T : Tn) (sg : Nat → Int) : Nat → Nat → (Nat → Nat) → Int × (Nat → Nat)
  | 0, _, c => (-6, c)
  | r + 1, j, c => if oks T (sg j) c = true then flt T sg r (j + 1) (upN c (tg (sg j)) (c (tg (sg j)) + 1)) else ((j : Int), c)
def a_fault (T : Tn) (p : Pd) : Int := (flt T p.2 p.1 0 (fun _ => 0)).1
def c_fault (T : Tn) (p : Pd) : Nat → Nat := (flt T p.2 p.1 0 (fun _ => 0)).2
def s6 (c : Nat → Nat) : Nat := c 0 + (c 1 + (c 2 + (c 3 + (c 4 + c 5))))
theorem s6_up {c : Nat → Nat} {t : Nat} (ht : t < 6) : s6 (upN c t (c t + 1)) = s6 c + 1 := by
  unfold s6 upN
  rcases (show t = 0 ∨ t = 1 ∨ t = 2 ∨ t = 3 ∨ t = 4 ∨ t = 5 by omega) with rfl | rfl | rfl | rfl | rfl | rfl <;> simp <;> omega
theorem upN_le {T : Tn} {c : Nat → Nat} {t : Nat} (hc : ∀ i, i < 6 → c i ≤ tS T i) (ht : t < 6) (h : c t < tS T t) : ∀ i, i < 6 → upN c t (c t + 1) i ≤ tS T i := by
  intro i hi
  unfold upN
  by_cases e : i = t
  · rw [if_pos e, e]; omega
  · rw [if_neg e]; exact hc i hi
/-- what the run keeps: counts up to stock; without a fault as many as signs -/
theorem flt_ok (T : Tn) (sg : Nat → Int) : ∀ r j c, (∀ i, i < 6 → c i ≤ tS T i) → (∀ i, i < 6 → (flt T sg r j c).2 i ≤ tS T i) ∧ ((flt T sg r j c).1 = -6 → s6 (flt T sg r j c).2 = s6 c + r) ∧ ((flt T sg r j c).1 = -6 ∨ 0 ≤ (flt T sg r j c).1) := by
  intro r
  induction r with
  | zero => intro j c hc; exact ⟨hc, fun _ => rfl, Or.inl rfl⟩
  | succ r ih =>
    intro j c hc
    rw [flt]
    by_cases h : oks T (sg j) c = true
    · rw [if_pos h]
      have h2 := (oks_iff T _ c).mp h
      have ht : tg (sg j) < 6 := by unfold tg; omega
      have h3 := ih (j + 1) _ (upN_le hc ht h2.2)
      rw [s6_up ht] at h3
      exact ⟨h3.1, fun q => by rw [h3.2.1 q]; omega, h3.2.2⟩
    · rw [if_neg h]
      exact ⟨hc, fun q => absurd q (by show ¬ (j : Int) = -6; omega), Or.inr (by show 0 ≤ (j : Int); omega)⟩
theorem sp_X1_firstWrong {T : Tn} {p : Pd} {price stock counts sg : Nat → Int32} {len : Int32} (hT : Tok T) (hp : aN price (tP T) 6) (hst : aN stock (tS T) 6) (hd : PDx p len sg) {Q : Int32 → (Nat → Int32) → Prop} (hQ : ∀ counts, (∀ i, i < 6 → counts i = iI (c_fault T p i : Int)) → Q (iI (a_fault T p)) counts) : wp_X1_firstWrong price stock counts len sg Q := by
  unfold wp_X1_firstWrong
  show wp_J7_fill_53178 _ _ _ _
  unfold wp_J7_fill_53178
  rw [hd.1]
  have h40 := hd.2.1
  refine ⟨p.1 + 1, ?_⟩
  have loop : ∀ (r j : Nat) (c : Nat → Nat) (counts : Nat → Int32), j + r = p.1 → (∀ i, i < 6 → c i ≤ tS T i) → (∀ i, i < 6 → counts i = iI (c i : Int)) → (∀ counts, (∀ i, i < 6 → counts i = iI ((flt T p.2 r j c).2 i : Int)) → Q (iI (flt T p.2 r j c).1) counts) → wl_X1_firstWrong_10 price stock (iI (p.1 : Int)) sg (fun k => wx_X1_firstWrong_10 k Q) Q (r + 1) (iI (j : Int)) counts := by
    intro r
    induction r with
    | zero =>
      intro j c counts hj hc hcs hq
      show wb_X1_firstWrong_10 _ _ _ _ _ _ _ _ _
      unfold wb_X1_firstWrong_10
      exact br_le (p.1 : Int) (j : Int) (tN (by omega)) (tN (by omega)) (fun _ => hq counts hcs) (fun q => absurd q (by omega))
    | succ r ih =>
      intro j c counts hj hc hcs hq
      have e3 : iI (j : Int) + 1 = iI ((j + 1 : Nat) : Int) := iI_add _ 1
      have hsj := hd.2.2 j (by omega)
      show wb_X1_firstWrong_10 _ _ _ _ _ _ _ _ _
      unfold wb_X1_firstWrong_10
      rw [flt] at hq
      refine br_le (p.1 : Int) (j : Int) (tN (by omega)) (tN (by omega)) (fun q => absurd q (by omega)) (fun _ => ⟨iI_in (by omega) (by omega) (by omega), nm_r (e' := iI (p.2 j - 97)) ?_ (sp_X5_isSold hT hp ?_)⟩)
      · rw [iI_clN (by omega), hsj.1]; exact iI_sub _ 97
      · rw [tI (by omega)]
        refine bz_e (fun g => ?_) (fun g => ?_)
        · rw [if_neg (by rw [oks_iff]; exact fun q => g q.1)] at hq
          exact hq counts hcs
        · have ht : tg (p.2 j) < 6 := by unfold tg; omega
          have hin : vp_in (iI (p.2 j - 97)) 6 := iI_in (by omega) (by omega) (by omega)
          have hb := hT.1 _ ht
          have hct := hc _ ht
          rw [iI_cl (by omega) (by omega), show (p.2 j - 97).toNat = tg (p.2 j) from rfl, hcs _ ht, hst _ ht]
          refine ⟨hin, hin, br_lt (c (tg (p.2 j)) : Int) (tS T (tg (p.2 j)) : Int) (tN (by omega)) (tN (by omega)) (fun g2 => ⟨hin, hin, nm_r rfl (nm_r e3 (ih (j + 1) _ _ (by omega) (upN_le hc ht (by omega)) ?_ ?_))⟩) (fun g2 => ?_)⟩
          · intro i hi
            unfold upd upN
            by_cases e : i = tg (p.2 j)
            · rw [if_pos e, if_pos e]; exact iI_add _ 1
            · rw [if_neg e, if_neg e]; exact hcs i hi
          · rw [if_pos (by rw [oks_iff]; exact ⟨g, by omega⟩)] at hq
            exact hq
          · rw [if_neg (by rw [oks_iff]; exact fun q => by have := q.2; omega)] at hq
            exact hq counts hcs
  exact loop p.1 0 (fun _ => 0) _ (by omega) (fun i _ => Nat.zero_le _) (fun i hi => if_pos hi) hQ
theorem sp_X6_fault {T : Tn} {p : Pd} {price stock counts sg : Nat → Int32} {len : Int32} (hT : Tok T) (hp : aN price (tP T) 6) (hst : aN stock (tS T) 6) (hd : PDx p len sg) {Q : Int32 → (Nat → Int32) → Prop} (hQ : ∀ counts, Q (iI (a_fault T p)) counts) : wp_X6_fault counts len sg price stock Q :=
  sp_X1_firstWrong hT hp hst hd (fun counts _ => hQ counts)
theorem sp_X7_clear {lies : Nat → Int32} {Q : (Nat → Int32) → Prop} (hQ : ∀ lies : Nat → Int32, (∀ i, i < 6 → lies i = 0) → Q lies) : wp_X7_clearBasket lies Q := by
  unfold wp_X7_clearBasket
  refine ⟨7, ?_⟩
  have loop : ∀ (r j : Nat) (lies : Nat → Int32), j + r = 6 → (∀ i, i < j → lies i = 0) → wl_X7_clearBasket_2 (fun k => wx_X7_clearBasket_2 k Q) (r + 1) (iI (j : Int)) lies := by
    intro r
    induction r with
    | zero =>
      intro j lies hj hl
      show wb_X7_clearBasket_2 _ _ _ _
      unfold wb_X7_clearBasket_2
      exact br_le 6 (j : Int) rfl (tN (by omega)) (fun _ => hQ lies (fun i hi => hl i (by omega))) (fun q => absurd q (by omega))
    | succ r ih =>
      intro j lies hj hl
      show wb_X7_clearBasket_2 _ _ _ _
      unfold wb_X7_clearBasket_2
      refine br_le 6 (j : Int) rfl (tN (by omega)) (fun q => absurd q (by omega)) (fun _ => ⟨iI_in (by omega) (by omega) (by omega), nm_r rfl (nm_r (e' := iI ((j + 1 : Nat) : Int)) (iI_add _ 1) (ih (j + 1) _ (by omega) ?_))⟩)
      intro i hi
      rw [iI_clN (by omega)]
      unfold upd
      by_cases e : i = j
      · rw [if_pos e]
      · rw [if_neg e]; exact hl i (by omega)
  exact loop 6 0 lies (by omega) (fun i hi => absurd hi (by omega))
theorem sp_X7_fault {T : Tn} {p : Pd} {price stock lies sg : Nat → Int32} {len : Int32} (hT : Tok T) (hp : aN price (tP T) 6) (hst : aN stock (tS T) 6) (hd : PDx p len sg) {Q : Int32 → (Nat → Int32) → Prop} (hQ : ∀ lies, (∀ i, i < 6 → lies i = iI (c_fault T p i : Int)) → Q (iI (a_fault T p)) lies) : wp_X7_fault lies sg len price stock Q := by
  unfold wp_X7_fault
  refine sp_X7_clear (fun lies hl0 => ?_)
  rw [hd.1]
  have h40 := hd.2.1
  refine ⟨p.1 + 1, ?_⟩
  have loop : ∀ (r j : Nat) (c : Nat → Nat) (counts : Nat → Int32), j + r = p.1 → (∀ i, i < 6 → c i ≤ tS T i) → (∀ i, i < 6 → counts i = iI (c i : Int)) → (∀ counts, (∀ i, i < 6 → counts i = iI ((flt T p.2 r j c).2 i : Int)) → Q (iI (flt T p.2 r j c).1) counts) → wl_X7_fault_6 sg (iI (p.1 : Int)) price stock (fun k => wx_X7_fault_6 k Q) Q (r + 1) (iI (j : Int)) counts := by
    intro r
    induction r with
    | zero =>
      intro j c counts hj hc hcs hq
      show wb_X7_fault_6 _ _ _ _ _ _ _ _ _
      unfold wb_X7_fault_6
      exact br_le (p.1 : Int) (j : Int) (tN (by omega)) (tN (by omega)) (fun _ => hq counts hcs) (fun q => absurd q (by omega))
    | succ r ih =>
      intro j c counts hj hc hcs hq
      have e3 : iI (j : Int) + 1 = iI ((j + 1 : Nat) : Int) := iI_add _ 1
      have hsj := hd.2.2 j (by omega)
      show wb_X7_fault_6 _ _ _ _ _ _ _ _ _
      unfold wb_X7_fault_6
      rw [flt] at hq
      refine br_le (p.1 : Int) (j : Int) (tN (by omega)) (tN (by omega)) (fun q => absurd q (by omega)) (fun _ => ⟨iI_in (by omega) (by omega) (by omega), nm_r (e' := iI (p.2 j - 97)) ?_ (sp_X7_isThing ?_)⟩)
      · rw [iI_clN (by omega), hsj.1]; exact iI_sub _ 97
      · rw [tI (by omega)]
        refine bz_e (fun g => ?_) (fun g => ?_)
        · rw [if_neg (by rw [oks_iff]; exact fun q => g q.1.1)] at hq
          exact hq counts hcs
        · have ht : tg (p.2 j) < 6 := by unfold tg; omega
          have hin : vp_in (iI (p.2 j - 97)) 6 := iI_in (by omega) (by omega) (by omega)
          have hb := hT.1 _ ht
          have hct := hc _ ht
          rw [iI_cl (by omega) (by omega), show (p.2 j - 97).toNat = tg (p.2 j) from rfl, hcs _ ht, hst _ ht, hp _ ht]
          refine ⟨hin, br_eq (tP T (tg (p.2 j)) : Int) 0 (tN (by omega)) rfl (fun g1 => ?_) (fun g1 => ⟨hin, hin, br_ne (c (tg (p.2 j)) : Int) (tS T (tg (p.2 j)) : Int) (tN (by omega)) (tN (by omega)) (fun g2 => ⟨hin, hin, nm_r rfl (nm_r e3 (ih (j + 1) _ _ (by omega) (upN_le hc ht (by omega)) ?_ ?_))⟩) (fun g2 => ?_)⟩)⟩
          · rw [if_neg (by rw [oks_iff]; exact fun q => by have := q.1.2; omega)] at hq
            exact hq counts hcs
          · intro i hi
            unfold upd upN
            by_cases e : i = tg (p.2 j)
            · rw [if_pos e, if_pos e]; exact iI_add _ 1
            · rw [if_neg e, if_neg e]; exact hcs i hi
          · rw [if_pos (by rw [oks_iff]; exact ⟨⟨g, by omega⟩, by omega⟩)] at hq
            exact hq
          · rw [if_neg (by rw [oks_iff]; exact fun q => by have := q.2; omega)] at hq
            exact hq counts hcs
  exact loop p.1 0 (fun _ => 0) _ (by omega) (fun i _ => Nat.zero_le _) (fun i hi => hl0 i hi) hQ
/-- a sum over the things -/
def sm (f : Nat → Nat) : Nat → Nat
  | 0 => 0
  | t + 1 => sm f t + f t
theorem sm_le {f : Nat → Nat} {B : Nat} : ∀ n, n ≤ 6 → (∀ t, t < 6 → f t ≤ B) → sm f n ≤ n * B := by
  intro n
  induction n with
  | zero => intro _ _; simp [sm]
  | succ n ih =>
    intro hn h
    have h1 := ih (by omega) h
    have h2 := h n (by omega)
    rw [sm, Nat.succ_mul]
    omega
def b_price (T : Tn) (c : Nat → Nat) : Nat → Nat := fun t => c t * tP T t
def b_worth (T : Tn) (c : Nat → Nat) : Nat → Nat := fun t => wN (tW T t) (tL T t) (c t)
def a_basket (T : Tn) (p : Pd) (z : Int) : Int := if 0 ≤ z ∧ z ≤ 2 then (if a_fault T p = -6 then (if z = 0 then (sm (b_price T (c_fault T p)) 6 : Int) else if z = 1 then (sm (b_worth T (c_fault T p)) 6 : Int) else (p.1 : Int)) else -5) else -2
theorem cf_ok (T : Tn) (p : Pd) : (∀ i, i < 6 → c_fault T p i ≤ tS T i) ∧ (a_fault T p = -6 → s6 (c_fault T p) = p.1) ∧ (a_fault T p = -6 ∨ 0 ≤ a_fault T p) := by
  have h := flt_ok T p.2 p.1 0 (fun _ => 0) (fun i _ => Nat.zero_le _)
  refine ⟨h.1, fun q => ?_, h.2.2⟩
  have := h.2.1 q
  have e : s6 (fun _ => 0) = 0 := rfl
  rw [e, Nat.zero_add] at this
  exact this
theorem flt_hi (T : Tn) (sg : Nat → Int) : ∀ r j c, (flt T sg r j c).1 ≤ (j + r : Int) := by
  intro r
  induction r with
  | zero => intro j c; show (-6 : Int) ≤ _; omega
  | succ r ih =>
    intro j c
    rw [flt]
    by_cases h : oks T (sg j) c = true
    · rw [if_pos h]
      have := ih (j + 1) (upN c (tg (sg j)) (c (tg (sg j)) + 1))
      omega
    · rw [if_neg h]
      show (j : Int) ≤ _
      omega
theorem sp_X1_priceIn {T : Tn} {price counts : Nat → Int32} {c : Nat → Nat} (hT : Tok T) (hp : aN price (tP T) 6) (hcs : ∀ i, i < 6 → counts i = iI (c i : Int)) (hc : ∀ i, i < 6 → c i ≤ 9) {Q : Int32 → Prop} (hQ : Q (iI (sm (b_price T c) 6 : Int))) : wp_X1_priceIn price counts Q := by
  unfold wp_X1_priceIn
  refine ⟨7, ?_⟩
  have loop : ∀ (r t : Nat), t + r = 6 → wl_X1_priceIn_4 price counts (fun k => wx_X1_priceIn_4 k Q) (r + 1) (iI (sm (b_price T c) t : Int)) (iI (t : Int)) := by
    intro r
    induction r with
    | zero =>
      intro t ht
      show wb_X1_priceIn_4 _ _ _ _ _ _
      unfold wb_X1_priceIn_4
      have : t = 6 := by omega
      subst this
      exact br_le 6 ((6 : Nat) : Int) rfl (tN (by omega)) (fun _ => hQ) (fun q => absurd q (by omega))
    | succ r ih =>
      intro t ht
      have hin : vp_in (iI (t : Int)) 6 := iI_in (by omega) (by omega) (by omega)
      show wb_X1_priceIn_4 _ _ _ _ _ _
      unfold wb_X1_priceIn_4
      refine br_le 6 (t : Int) rfl (tN (by omega)) (fun q => absurd q (by omega)) (fun _ => ⟨hin, hin, nm_r (e' := iI (sm (b_price T c) (t + 1) : Int)) ?_ (nm_r (e' := iI ((t + 1 : Nat) : Int)) (iI_add _ 1) (ih (t + 1) (by omega)))⟩)
      rw [iI_clN (by omega), hcs t (by omega), hp t (by omega), iI_mul, iI_add, ← Int.natCast_mul]
      congr 1
  exact loop 6 0 (by omega)
theorem sp_X1_worthIn {T : Tn} {less worth counts : Nat → Int32} {c : Nat → Nat} (hT : Tok T) (hw : aN worth (tW T) 6) (hl : aN less (tL T) 6) (hcs : ∀ i, i < 6 → counts i = iI (c i : Int)) (hc : ∀ i, i < 6 → c i ≤ 9) {Q : Int32 → Prop} (hQ : Q (iI (sm (b_worth T c) 6 : Int))) : wp_X1_worthIn less worth counts Q := by
  unfold wp_X1_worthIn
  refine ⟨7, ?_⟩
  have loop : ∀ (r t : Nat), t + r = 6 → wl_X1_worthIn_4 less worth counts (fun k => wx_X1_worthIn_4 k Q) (r + 1) (iI (sm (b_worth T c) t : Int)) (iI (t : Int)) := by
    intro r
    induction r with
    | zero =>
      intro t ht
      show wb_X1_worthIn_4 _ _ _ _ _ _ _
      unfold wb_X1_worthIn_4
      have : t = 6 := by omega
      subst this
      exact br_le 6 ((6 : Nat) : Int) rfl (tN (by omega)) (fun _ => hQ) (fun q => absurd q (by omega))
    | succ r ih =>
      intro t ht
      have hin : vp_in (iI (t : Int)) 6 := iI_in (by omega) (by omega) (by omega)
      have hct := hc t (by omega)
      show wb_X1_worthIn_4 _ _ _ _ _ _ _
      unfold wb_X1_worthIn_4
      rw [iI_clN (by omega), hcs t (by omega)]
      refine br_le 6 (t : Int) rfl (tN (by omega)) (fun q => absurd q (by omega)) (fun _ => ⟨hin, sp_X5_worthOf hT hw hl (by omega) (by omega) (nm_r (e' := iI (sm (b_worth T c) (t + 1) : Int)) ?_ (nm_r (e' := iI ((t + 1 : Nat) : Int)) (iI_add _ 1) (ih (t + 1) (by omega))))⟩)
      rw [iI_add]
      congr 1
  exact loop 6 0 (by omega)
theorem sp_X6_basket {T : Tn} {p : Pd} {less price stock worth counts sg : Nat → Int32} {len x : Int32} (h : TX T less price stock worth) (hd : PDx p len sg) {Q : Int32 → (Nat → Int32) → Prop} (hQ : ∀ counts, Q (iI (a_basket T p x.toInt)) counts) : wp_X6_basket x counts len sg less price stock worth Q := by
  unfold wp_X6_basket
  unfold a_basket at hQ
  have hcf := cf_ok T p
  have hc9 : ∀ i, i < 6 → c_fault T p i ≤ 9 := fun i hi => Nat.le_trans (hcf.1 i hi) (h.1.1 i hi).2.1
  have hhi := flt_hi T p.2 p.1 0 (fun _ => 0)
  have h40 := hd.2.1
  refine sp_X6_within (bz_n (fun hx => ?_) (fun hx => ?_))
  · have hx : 0 ≤ x.toInt ∧ x.toInt ≤ 2 := hx
    rw [if_pos hx] at hQ
    refine sp_X1_firstWrong h.1 h.2.1 h.2.2.1 hd (fun counts hcs => br_eq (a_fault T p) (-6) (tI (by unfold a_fault at *; omega)) rfl (fun g => ?_) (fun g => ?_))
    · rw [if_pos g] at hQ
      refine br_ne x.toInt 0 rfl rfl (fun g0 => br_ne x.toInt 1 rfl rfl (fun g1 => ?_) (fun g1 => ?_)) (fun g0 => ?_)
      · rw [if_neg g0, if_neg g1] at hQ; rw [hd.1]; exact hQ _
      · rw [if_neg g0, if_pos g1] at hQ
        exact sp_X1_worthIn h.1 h.2.2.2.1 h.2.2.2.2 hcs hc9 (hQ _)
      · rw [if_pos g0] at hQ
        exact sp_X1_priceIn h.1 h.2.1 hcs hc9 (hQ _)
    · rw [if_neg g] at hQ; exact hQ _
  · have hx : ¬ (0 ≤ x.toInt ∧ x.toInt ≤ 2) := hx
    rw [if_neg hx] at hQ; exact hQ _
theorem sp_X7_basket {T : Tn} {p : Pd} {less price stock worth lies sg : Nat → Int32} {len x : Int32} (h : TX T less price stock worth) (hd : PDx p len sg) {Q : Int32 → (Nat → Int32) → Prop} (hQ : ∀ lies, Q (iI (a_basket T p x.toInt)) lies) : wp_X7_basket x less lies sg len price stock worth Q := by
  unfold wp_X7_basket
  unfold a_basket at hQ
  have hcf := cf_ok T p
  have hc9 : ∀ i, i < 6 → c_fault T p i ≤ 9 := fun i hi => Nat.le_trans (hcf.1 i hi) (h.1.1 i hi).2.1
  have hhi := flt_hi T p.2 p.1 0 (fun _ => 0)
  have h40 := hd.2.1
  refine sp_X7_in (bz_n (fun hx => ?_) (fun hx => ?_))
  · have hx : 0 ≤ x.toInt ∧ x.toInt ≤ 2 := hx
    rw [if_pos hx] at hQ
    refine sp_X7_fault h.1 h.2.1 h.2.2.1 hd (fun lies hcs => br_lt (a_fault T p) 0 (tI (by unfold a_fault at *; omega)) rfl (fun g => ⟨7, ?_⟩) (fun g => ?_))
    · have g6 : a_fault T p = -6 := by
        rcases hcf.2.2 with q | q
        · exact q
        · omega
      rw [if_pos g6] at hQ
      have loop : ∀ (F : Nat → Nat), ((x.toInt = 0 ∧ F = b_price T (c_fault T p)) ∨ (x.toInt = 1 ∧ F = b_worth T (c_fault T p)) ∨ (x.toInt = 2 ∧ F = c_fault T p)) → (∀ lies, Q (iI (sm F 6 : Int)) lies) → ∀ (r t : Nat), t + r = 6 → wl_X7_basket_29 x less lies price worth (fun k => wx_X7_basket_29 k lies Q) (r + 1) (iI (sm F t : Int)) (iI (t : Int)) := by
        intro F hF hq r
        induction r with
        | zero =>
          intro t ht
          show wb_X7_basket_29 _ _ _ _ _ _ _ _ _
          unfold wb_X7_basket_29
          have : t = 6 := by omega
          subst this
          exact br_le 6 ((6 : Nat) : Int) rfl (tN (by omega)) (fun _ => hq _) (fun q => absurd q (by omega))
        | succ r ih =>
          intro t ht
          have hin : vp_in (iI (t : Int)) 6 := iI_in (by omega) (by omega) (by omega)
          have hct := hc9 t (by omega)
          have e3 : iI (t : Int) + 1 = iI ((t + 1 : Nat) : Int) := iI_add _ 1
          have en : ∀ v : Nat, F t = v → iI (sm F t : Int) + iI (v : Int) = iI (sm F (t + 1) : Int) := fun v hv => by
            rw [iI_add, sm, hv]; congr 1
          show wb_X7_basket_29 _ _ _ _ _ _ _ _ _
          unfold wb_X7_basket_29
          rw [iI_clN (by omega), hcs t (by omega), h.2.1 t (by omega)]
          refine br_le 6 (t : Int) rfl (tN (by omega)) (fun q => absurd q (by omega)) (fun _ => br_ne x.toInt 0 rfl rfl (fun g0 => br_ne x.toInt 1 rfl rfl (fun g1 => ⟨hin, ?_⟩) (fun g1 => ⟨hin, ?_⟩)) (fun g0 => ⟨hin, hin, ?_⟩))
          · rcases hF with ⟨q, -⟩ | ⟨q, -⟩ | ⟨q, hF⟩
            · exact absurd q g0
            · exact absurd q g1
            · exact nm_r (en _ (by rw [hF])) (nm_r e3 (ih (t + 1) (by omega)))
          · rcases hF with ⟨q, -⟩ | ⟨q, hF⟩ | ⟨q, -⟩
            · exact absurd q g0
            · exact sp_X7_worthOf h.1 h.2.2.2.1 h.2.2.2.2 (by omega) (by omega) (nm_r (en _ (by rw [hF]; rfl)) (nm_r e3 (ih (t + 1) (by omega))))
            · omega
          · rcases hF with ⟨q, hF⟩ | ⟨q, -⟩ | ⟨q, -⟩
            · rw [iI_mul, ← Int.natCast_mul]
              exact nm_r (en _ (by rw [hF]; rfl)) (nm_r e3 (ih (t + 1) (by omega)))
            · omega
            · omega
      by_cases g0 : x.toInt = 0
      · rw [if_pos g0] at hQ
        exact loop _ (Or.inl ⟨g0, rfl⟩) hQ 6 0 (by omega)
      · rw [if_neg g0] at hQ
        by_cases g1 : x.toInt = 1
        · rw [if_pos g1] at hQ
          exact loop _ (Or.inr (Or.inl ⟨g1, rfl⟩)) hQ 6 0 (by omega)
        · rw [if_neg g1, ← hcf.2.1 g6] at hQ
          have e6 : s6 (c_fault T p) = sm (c_fault T p) 6 := by
            show _ = 0 + c_fault T p 0 + c_fault T p 1 + c_fault T p 2 + c_fault T p 3 + c_fault T p 4 + c_fault T p 5
            unfold s6
            omega
          rw [e6] at hQ
          exact loop _ (Or.inr (Or.inr ⟨by omega, rfl⟩)) hQ 6 0 (by omega)
    · have g6 : ¬ a_fault T p = -6 := by omega
      rw [if_neg g6] at hQ; exact hQ _
  · have hx : ¬ (0 ≤ x.toInt ∧ x.toInt ≤ 2) := hx
    rw [if_neg hx] at hQ; exact hQ _
