/-! the reference's rows -/
theorem lo_X7_fillRow_2 {T : Tn} {less price stock worth best0 many0 : Nat → Int32} (hT : Tok T) (hp : aN price (tP T) 6) (hst : aN stock (tS T) 6) (hw : aN worth (tW T) 6) (hl : aN less (tL T) 6) {t : Nat} (ht : t < 6) {V : Nat → Option Int} {Wy : Nat → Int32} (hV : Vb V 10000) (h1 : ∀ s, s < 1000 → best0 (1000 * (t + 1) + s) = em (V s)) (h2 : ∀ s, s < 1000 → many0 (1000 * (t + 1) + s) = Wy s) {K : (Nat → Int32) → (Nat → Int32) → Prop}
    (hK : ∀ best many : Nat → Int32, (∀ s, s < 1000 → best (1000 * t + s) = em (mo (tP T t) (fun k => (wN (tW T t) (tL T t) k : Int)) (mst T t + 1) V s)) → (∀ s, s < 1000 → many (1000 * t + s) = wo (tP T t) (mst T t + 1) Wy s) → (∀ i, (i < 1000 * t ∨ 1000 * (t + 1) ≤ i) → best i = best0 i ∧ many i = many0 i) → K best many) :
    ∀ r s, s + r = 1000 → ∀ best many : Nat → Int32, (∀ s', s' < s → best (1000 * t + s') = em (mo (tP T t) (fun k => (wN (tW T t) (tL T t) k : Int)) (mst T t + 1) V s')) → (∀ s', s' < s → many (1000 * t + s') = wo (tP T t) (mst T t + 1) Wy s') → (∀ i, (i < 1000 * t ∨ 1000 * (t + 1) ≤ i) → best i = best0 i ∧ many i = many0 i) → wl_X7_fillRow_2 (iI (t : Int)) less price stock worth K (r + 1) (iI (s : Int)) best many := by
  intro r
  induction r with
  | zero =>
    intro s hs best many g1 g2 g3
    show wb_X7_fillRow_2 _ _ _ _ _ _ _ _ _ _
    unfold wb_X7_fillRow_2
    have : s = 1000 := by omega
    subst this
    exact br_le 1000 ((1000 : Nat) : Int) rfl (tN (by omega)) (fun _ => hK best many g1 g2 g3) (fun h => absurd h (by omega))
  | succ r ih =>
    intro s hs best many g1 g2 g3
    show wb_X7_fillRow_2 _ _ _ _ _ _ _ _ _ _
    unfold wb_X7_fillRow_2
    refine br_le 1000 (s : Int) rfl (tN (by omega)) (fun h => absurd h (by omega)) (fun _ => ⟨mst T t + 2, ?_⟩)
    refine lo_X7_fillRow_18 (V := V) (Wy := Wy) hT hp hst hw hl ht (show s < 1000 by omega) hV (fun s' hs' => by rw [(g3 _ (Or.inr (by omega))).1]; exact h1 s' hs') (fun s' hs' => by rw [(g3 _ (Or.inr (by omega))).2]; exact h2 s' hs') (K := fun k_x3 k_x4 => wx_X7_fillRow_18 (iI (t : Int)) (iI (s : Int)) k_x3 k_x4 best many _) ?_ (mst T t + 1) 0 (by omega)
    show wx_X7_fillRow_18 _ _ _ _ _ _ _
    unfold wx_X7_fillRow_18
    have ea : ((1000 : Int32) * iI (t : Int)) + iI (s : Int) = iI ((1000 * t + s : Nat) : Int) := by
      rw [show (1000 : Int32) * iI (t : Int) = iI (1000 * (t : Int)) from iI_mul 1000 _, iI_add]
      congr 1 <;> omega
    rw [ea, iI_clN (by omega)]
    have hin : vp_in (iI ((1000 * t + s : Nat) : Int)) 7000 := iI_in (by omega) (by omega) (by omega)
    refine ⟨hin, nm_r rfl ⟨hin, nm_r rfl (nm_r (e' := iI ((s + 1 : Nat) : Int)) (iI_add _ 1) (ih (s + 1) (by omega) _ _ ?_ ?_ ?_))⟩⟩
    · intro s' hs'
      unfold upd
      by_cases h : s' = s
      · rw [if_pos (by omega), h]
      · rw [if_neg (by omega)]; exact g1 s' (by omega)
    · intro s' hs'
      unfold upd
      by_cases h : s' = s
      · rw [if_pos (by omega), h]
      · rw [if_neg (by omega)]; exact g2 s' (by omega)
    · intro i hi
      unfold upd
      rw [if_neg (by omega), if_neg (by omega)]
      exact g3 i hi
theorem sp_X7_fillRow {T : Tn} {less price stock worth best many : Nat → Int32} (hT : Tok T) (hp : aN price (tP T) 6) (hst : aN stock (tS T) 6) (hw : aN worth (tW T) 6) (hl : aN less (tL T) 6) {t : Nat} (ht : t < 6) {V : Nat → Option Int} {Wy : Nat → Int32} (hV : Vb V 10000) (h1 : ∀ s, s < 1000 → best (1000 * (t + 1) + s) = em (V s)) (h2 : ∀ s, s < 1000 → many (1000 * (t + 1) + s) = Wy s) {Q : (Nat → Int32) → (Nat → Int32) → Prop}
    (hQ : ∀ best' many' : Nat → Int32, (∀ s, s < 1000 → best' (1000 * t + s) = em (mo (tP T t) (fun k => (wN (tW T t) (tL T t) k : Int)) (mst T t + 1) V s)) → (∀ s, s < 1000 → many' (1000 * t + s) = wo (tP T t) (mst T t + 1) Wy s) → (∀ i, (i < 1000 * t ∨ 1000 * (t + 1) ≤ i) → best' i = best i ∧ many' i = many i) → Q best' many') : wp_X7_fillRow (iI (t : Int)) best less many price stock worth Q :=
  ⟨1001, lo_X7_fillRow_2 hT hp hst hw hl ht hV h1 h2 (K := fun a b => wx_X7_fillRow_2 a b Q) hQ 1000 0 (by omega) best many (fun _ h => absurd h (by omega)) (fun _ h => absurd h (by omega)) (fun i _ => ⟨rfl, rfl⟩)⟩
def wS (T : Tn) (m t : Nat) : Nat → Int32 := bwd (wt T m) t (6 - t) d1
theorem wy_wS (T : Tn) : wy T = wS T 63 0 := fwd_bwd (wt T 63) (fun i j f => wo_comm _ _ _ _ f) 6 d1
theorem wS_step (T : Tn) (m t : Nat) (h : t < 6) : wS T m t = wt T m t (wS T m (t + 1)) := by
  unfold wS
  rw [show 6 - t = (6 - (t + 1)) + 1 by omega]
  rfl
theorem un_sold {T : Tn} {m t : Nat} (h : Nat.testBit m t = false) : sold T m t = false := by unfold sold; rw [h]; rfl
theorem vS_far (T : Tn) (m : Nat) : ∀ n t, t + n = 6 → (∀ i, t ≤ i → i < 6 → Nat.testBit m i = false) → vS T m t = dl ∧ wS T m t = d1 := by
  intro n
  induction n with
  | zero => intro t ht _; have : t = 6 := by omega
            subst this; exact ⟨rfl, rfl⟩
  | succ n ih =>
    intro t ht h
    have h1 := ih (t + 1) (by omega) (fun i hi hi6 => h i (by omega) hi6)
    have h2 := un_sold (T := T) (h t (Nat.le_refl t) (by omega))
    refine ⟨by rw [vS_step T m t (by omega), vo_un T m t h2, h1.1], ?_⟩
    rw [wS_step T m t (by omega), h1.2]
    unfold wt nS
    rw [if_neg (by rw [h2]; decide)]
    exact wo_one _ _
theorem vS_b (T : Tn) (hT : Tok T) (m : Nat) : ∀ n t : Nat, t + n = 6 → Vb (vS T m t) (990 * (n : Int)) := by
  intro n
  induction n with
  | zero =>
    intro t ht s v h
    have : t = 6 := by omega
    subst this
    rw [vS_6] at h
    unfold dl at h
    by_cases h0 : s = 0
    · rw [if_pos h0] at h; cases h; omega
    · rw [if_neg h0] at h; cases h
  | succ n ih =>
    intro t ht s v h
    rw [vS_step T m t (by omega)] at h
    have := Vb_mo (ih (t + 1) (by omega)) (fun k hk => (show (0 : Int) ≤ (wN (tW T t) (tL T t) k : Int) ∧ (wN (tW T t) (tL T t) k : Int) ≤ 990 by have := wN_b T hT (show t < 6 by omega) (k := k) (by omega); omega)) (nS_le T hT m t (by omega)) s v h
    omega
theorem vS_B (T : Tn) (hT : Tok T) (m t : Nat) (ht : t ≤ 6) : Vb (vS T m t) 10000 := fun s v h => by
  have := vS_b T hT m (6 - t) t (by omega) s v h
  omega
/-- row t of the reference's tables -/
def MB (T : Tn) (m t : Nat) (best many : Nat → Int32) : Prop := ∀ s, s < 1000 → best (1000 * t + s) = em (vS T m t s) ∧ many (1000 * t + s) = wS T m t s
theorem lo_X7_fill_2 {b : Nat} (hb : b < 6) {K : (Nat → Int32) → (Nat → Int32) → Prop} (hK : ∀ best many : Nat → Int32, (∀ s, s < 1000 → best (1000 * (b + 1) + s) = em (dl s) ∧ many (1000 * (b + 1) + s) = d1 s) → K best many) :
    ∀ r s, s + r = 1000 → ∀ best many : Nat → Int32, (∀ s', s' < s → best (1000 * (b + 1) + s') = em (dl s') ∧ many (1000 * (b + 1) + s') = d1 s') → wl_X7_fill_2 (iI (b : Int)) K (r + 1) (iI (s : Int)) best many := by
  intro r
  induction r with
  | zero =>
    intro s hs best many g1
    show wb_X7_fill_2 _ _ _ _ _ _
    unfold wb_X7_fill_2
    have : s = 1000 := by omega
    subst this
    exact br_le 1000 ((1000 : Nat) : Int) rfl (tN (by omega)) (fun _ => hK best many g1) (fun h => absurd h (by omega))
  | succ r ih =>
    intro s hs best many g1
    show wb_X7_fill_2 _ _ _ _ _ _
    unfold wb_X7_fill_2
    have ea : ((1000 : Int32) * (iI (b : Int) + (1 : Int32))) + iI (s : Int) = iI ((1000 * (b + 1) + s : Nat) : Int) := by
      rw [show iI (b : Int) + (1 : Int32) = iI ((b : Int) + 1) from iI_add _ 1, show (1000 : Int32) * iI ((b : Int) + 1) = iI (1000 * ((b : Int) + 1)) from iI_mul 1000 _, iI_add]
      congr 1 <;> omega
    rw [ea, iI_clN (by omega)]
    have hin : vp_in (iI ((1000 * (b + 1) + s : Nat) : Int)) 7000 := iI_in (by omega) (by omega) (by omega)
    have e3 : iI (s : Int) + 1 = iI ((s + 1 : Nat) : Int) := iI_add _ 1
    refine br_le 1000 (s : Int) rfl (tN (by omega)) (fun h => absurd h (by omega)) (fun _ => ?_)
    refine br_ne (s : Int) 0 (tN (by omega)) rfl (fun h => ⟨hin, nm_r rfl ?_⟩) (fun h => ⟨hin, nm_r rfl ?_⟩)
    · refine br_ne (s : Int) 0 (tN (by omega)) rfl (fun _ => ⟨hin, nm_r rfl (nm_r e3 (ih (s + 1) (by omega) _ _ ?_))⟩) (fun h2 => absurd h2 h)
      intro s' hs'
      unfold upd
      by_cases hq : s' = s
      · rw [if_pos (by omega), if_pos (by omega), hq]
        unfold dl d1
        rw [if_neg (by omega), if_neg (by omega)]
        exact ⟨rfl, rfl⟩
      · rw [if_neg (by omega), if_neg (by omega)]; exact g1 s' (by omega)
    · refine br_ne (s : Int) 0 (tN (by omega)) rfl (fun h2 => absurd h h2) (fun _ => ⟨hin, nm_r rfl (nm_r e3 (ih (s + 1) (by omega) _ _ ?_))⟩)
      intro s' hs'
      unfold upd
      by_cases hq : s' = s
      · rw [if_pos (by omega), if_pos (by omega), hq]
        unfold dl d1
        rw [if_pos (by omega), if_pos (by omega)]
        exact ⟨rfl, rfl⟩
      · rw [if_neg (by omega), if_neg (by omega)]; exact g1 s' (by omega)
theorem lo_X7_fill_64 {T : Tn} {less price stock worth : Nat → Int32} (hT : Tok T) (hp : aN price (tP T) 6) (hst : aN stock (tS T) 6) (hw : aN worth (tW T) 6) (hl : aN less (tL T) 6) {a b m : Nat} (hb : b < 6) (hm : ∀ i, i < 6 → (Nat.testBit m i = true ↔ a ≤ i ∧ i ≤ b)) {K : (Nat → Int32) → (Nat → Int32) → Prop} (hK : ∀ best many : Nat → Int32, (∀ t, a ≤ t → t ≤ b + 1 → MB T m t best many) → K best many) :
    ∀ r t, t = a + r → t ≤ b + 1 → ∀ best many : Nat → Int32, (∀ t', t ≤ t' → t' ≤ b + 1 → MB T m t' best many) → wl_X7_fill_64 (iI (a : Int)) less price stock worth K (r + 1) (iI ((t : Int) - 1)) best many := by
  intro r
  induction r with
  | zero =>
    intro t ht htb best many g1
    show wb_X7_fill_64 _ _ _ _ _ _ _ _ _ _
    unfold wb_X7_fill_64
    exact br_lt ((t : Int) - 1) (a : Int) (tI (by omega)) (tN (by omega)) (fun _ => hK best many (fun t' h1 h2 => g1 t' (by omega) h2)) (fun h => absurd h (by omega))
  | succ r ih =>
    intro t ht htb best many g1
    show wb_X7_fill_64 _ _ _ _ _ _ _ _ _ _
    unfold wb_X7_fill_64
    refine br_lt ((t : Int) - 1) (a : Int) (tI (by omega)) (tN (by omega)) (fun h => absurd h (by omega)) (fun _ => ?_)
    obtain ⟨u, hu⟩ : ∃ u, t = u + 1 := ⟨t - 1, by omega⟩
    subst hu
    have e0 : ((u + 1 : Nat) : Int) - 1 = (u : Int) := by omega
    rw [e0]
    have hbit : Nat.testBit m u = true := (hm u (by omega)).mpr ⟨by omega, by omega⟩
    refine sp_X7_fillRow hT hp hst hw hl (show u < 6 by omega) (vS_B T hT m (u + 1) (by omega)) (fun s hs => (g1 (u + 1) (by omega) htb s hs).1) (fun s hs => (g1 (u + 1) (by omega) htb s hs).2) (fun best' many' k1 k2 k3 => nm_r (e' := iI ((u : Int) - 1)) (iI_m1 _) (ih u (by omega) (by omega) best' many' ?_))
    intro t' h1 h2 s hs
    by_cases hq : t' = u
    · subst hq
      rw [k1 s hs, k2 s hs, vS_step T m t' (by omega), wS_step T m t' (by omega)]
      unfold vo wt
      rw [mst_nS hbit]
      exact ⟨rfl, rfl⟩
    · have k4 := k3 (1000 * t' + s) (Or.inr (by omega))
      rw [k4.1, k4.2]
      exact g1 t' (by omega) h2 s hs
theorem sp_X7_fill {T : Tn} {less price stock worth best many : Nat → Int32} (hT : Tok T) (hp : aN price (tP T) 6) (hst : aN stock (tS T) 6) (hw : aN worth (tW T) 6) (hl : aN less (tL T) 6) {a b m : Nat} (hb : b < 6) (hab : a ≤ b) (hm : ∀ i, i < 6 → (Nat.testBit m i = true ↔ a ≤ i ∧ i ≤ b)) {Q : (Nat → Int32) → (Nat → Int32) → Prop} (hQ : ∀ best many : Nat → Int32, (∀ t, a ≤ t → t ≤ b + 1 → MB T m t best many) → Q best many) : wp_X7_fill (iI (a : Int)) (iI (b : Int)) best less many price stock worth Q := by
  unfold wp_X7_fill
  refine ⟨1001, lo_X7_fill_2 hb (K := fun k1 k2 => wx_X7_fill_2 (iI (a : Int)) (iI (b : Int)) k1 less k2 price stock worth Q) ?_ 1000 0 (by omega) best many (fun _ h => absurd h (by omega))⟩
  intro best many g1
  show wx_X7_fill_2 _ _ _ _ _ _ _ _ _
  unfold wx_X7_fill_2
  have := lo_X7_fill_64 hT hp hst hw hl hb hm (K := fun k1 k2 => wx_X7_fill_64 k1 k2 Q) hQ (b + 1 - a) (b + 1) (by omega) (Nat.le_refl _) best many (fun t' h1 h2 s hs => by
    have e : t' = b + 1 := by omega
    subst e
    have hf := vS_far T m (6 - (b + 1)) (b + 1) (by omega) (fun i h1 h2 => by
      cases hq : Nat.testBit m i with
      | false => rfl
      | true => have := (hm i h2).mp hq; omega)
    rw [hf.1, hf.2]
    exact g1 s hs)
  have e0 : ((b + 1 : Nat) : Int) - 1 = (b : Int) := by omega
  rw [e0] at this
  exact ⟨_, this⟩
theorem bits63 : ∀ i : Nat, i < 6 → (Nat.testBit 63 i = true ↔ 0 ≤ i ∧ i ≤ 5) := by decide
theorem bits7 : ∀ i : Nat, i < 6 → (Nat.testBit 7 i = true ↔ 0 ≤ i ∧ i ≤ 2) := by decide
theorem bits56 : ∀ i : Nat, i < 6 → (Nat.testBit 56 i = true ↔ 3 ≤ i ∧ i ≤ 5) := by decide
theorem sp_X7_fillAll {T : Tn} {less price stock worth best many : Nat → Int32} (hT : Tok T) (hp : aN price (tP T) 6) (hst : aN stock (tS T) 6) (hw : aN worth (tW T) 6) (hl : aN less (tL T) 6) {Q : (Nat → Int32) → (Nat → Int32) → Prop} (hQ : ∀ best many : Nat → Int32, (∀ t, t ≤ 6 → MB T 63 t best many) → Q best many) : wp_X7_fillAll best less many price stock worth Q :=
  sp_X7_fill (a := 0) (b := 5) (m := 63) hT hp hst hw hl (by omega) (by omega) bits63 (fun best many h => hQ best many (fun t ht => h t (by omega) ht))
