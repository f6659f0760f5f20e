/-! how many baskets: numbers that wrap around, as the machine has them -/
def wt (T : Tn) (m t : Nat) : (Nat → Int32) → (Nat → Int32) := wo (tP T t) (nS T m t)
def d1 : Nat → Int32 := fun s => if s = 0 then 1 else 0
def wy (T : Tn) : Nat → Int32 := fwd (wt T 63) 6 d1
theorem wo_succ (P n : Nat) (f : Nat → Int32) (s : Nat) : wo P (n + 1) f s = wo P n f s + (if n * P ≤ s then f (s - n * P) else 0) := rfl
theorem wo_one (P : Nat) (f : Nat → Int32) : wo P 1 f = f := by
  funext s
  rw [wo_succ, Nat.zero_mul, if_pos (Nat.zero_le _), Nat.sub_zero]
  exact Int32.zero_add _
theorem wo_rec {P : Nat} {f b : Nat → Int32} (h : ∀ s, s < 1000 → b s = f s + (if P ≤ s then b (s - P) else 0)) : ∀ n s, s < 1000 → wo P n f s = b s - (if n * P ≤ s then b (s - n * P) else 0) := by
  intro n
  induction n with
  | zero =>
    intro s hs
    rw [Nat.zero_mul, if_pos (Nat.zero_le _), Nat.sub_zero]
    show (0 : Int32) = _
    exact (Int32.sub_self _).symm
  | succ n ih =>
    intro s hs
    rw [wo_succ, ih s hs, Nat.succ_mul]
    by_cases h1 : n * P ≤ s
    · rw [if_pos h1, if_pos h1]
      have h2 := h (s - n * P) (by omega)
      by_cases h3 : P ≤ s - n * P
      · rw [if_pos h3] at h2
        rw [if_pos (show n * P + P ≤ s by omega), show s - (n * P + P) = s - n * P - P by omega, h2]
        generalize b (s - n * P - P) = c
        generalize f (s - n * P) = d
        generalize b s = e
        grind
      · rw [if_neg h3] at h2
        rw [if_neg (show ¬ n * P + P ≤ s by omega), h2]
        generalize f (s - n * P) = d
        generalize b s = e
        grind
    · rw [if_neg h1, if_neg h1, if_neg (show ¬ n * P + P ≤ s by omega)]
      generalize b s = e
      grind
theorem lo_X4_addThing_2 {P : Nat} {f : Nat → Int32} (hP : 0 < P ∧ P ≤ 99) {K : (Nat → Int32) → Prop} (hK : ∀ b : Nat → Int32, (∀ s, s < 1000 → b s = f s + (if P ≤ s then b (s - P) else 0)) → K b) :
    ∀ r N, N + r = 1000 → P ≤ N → ∀ b : Nat → Int32, (∀ s, s < N → b s = f s + (if P ≤ s then b (s - P) else 0)) → (∀ s, N ≤ s → s < 1000 → b s = f s) → wl_X4_addThing_2 (iI (P : Int)) K (r + 1) (iI (N : Int)) b := by
  intro r
  induction r with
  | zero =>
    intro N hN hPN b h1 h2
    show wb_X4_addThing_2 _ _ _ _ _
    unfold wb_X4_addThing_2
    exact br_le 1000 (N : Int) rfl (tN (by omega)) (fun _ => hK b (fun s hs => h1 s (by omega))) (fun h => absurd h (by omega))
  | succ r ih =>
    intro N hN hPN b h1 h2
    show wb_X4_addThing_2 _ _ _ _ _
    unfold wb_X4_addThing_2
    have e : iI (N : Int) - iI (P : Int) = iI ((N - P : Nat) : Int) := by rw [iI_sub]; congr 1; omega
    rw [e]
    have hin : vp_in (iI (N : Int)) 1000 := iI_in (by omega) (by omega) (by omega)
    refine br_le 1000 (N : Int) rfl (tN (by omega)) (fun h => absurd h (by omega)) (fun _ => ⟨hin, iI_in (by omega) (by omega) (by omega), hin, ?_⟩)
    refine nm_r rfl (nm_r (e' := iI ((N + 1 : Nat) : Int)) (iI_add _ 1) (ih (N + 1) (by omega) (by omega) _ ?_ ?_))
    · intro s hs
      rw [iI_clN (by omega), iI_clN (by omega)]
      unfold upd
      by_cases hsN : s = N
      · subst hsN
        rw [if_pos rfl, if_pos hPN, if_neg (by omega), h2 s (by omega) (by omega)]
      · rw [if_neg hsN]
        have h9 := h1 s (by omega)
        by_cases hPs : P ≤ s
        · rw [if_pos hPs] at h9 ⊢
          rw [if_neg (by omega)]
          exact h9
        · rw [if_neg hPs] at h9 ⊢
          exact h9
    · intro s hs hs2
      rw [iI_clN (by omega), iI_clN (by omega)]
      unfold upd
      rw [if_neg (by omega)]
      exact h2 s (by omega) hs2
theorem lo_X4_addThing_43 {M : Nat} {b : Nat → Int32} (hM : 0 < M ∧ M < 1000000) {K : (Nat → Int32) → Prop} (hK : ∀ b' : Nat → Int32, (∀ s, s < 1000 → b' s = b s - (if M ≤ s then b (s - M) else 0)) → K b') :
    ∀ N, N < 1000 → ∀ b' : Nat → Int32, (∀ s, s ≤ N → b' s = b s) → (∀ s, N < s → s < 1000 → b' s = b s - (if M ≤ s then b (s - M) else 0)) → wl_X4_addThing_43 (iI (M : Int)) K (N + 1) (iI (N : Int)) b' := by
  have hend : ∀ N, N < M → ∀ b' : Nat → Int32, (∀ s, s ≤ N → b' s = b s) → (∀ s, N < s → s < 1000 → b' s = b s - (if M ≤ s then b (s - M) else 0)) → K b' := by
    intro N hN b' h1 h2
    refine hK b' (fun s hs => ?_)
    by_cases h : N < s
    · exact h2 s h hs
    · rw [if_neg (by omega), h1 s (by omega)]
      exact (Int32.sub_zero _).symm
  intro N
  induction N with
  | zero =>
    intro _ b' h1 h2
    show wb_X4_addThing_43 _ _ _ _ _
    unfold wb_X4_addThing_43
    exact br_lt ((0 : Nat) : Int) (M : Int) (tN (by omega)) (tN (by omega)) (fun _ => hend 0 hM.1 b' h1 h2) (fun h => absurd h (by omega))
  | succ N ih =>
    intro hN b' h1 h2
    show wb_X4_addThing_43 _ _ _ _ _
    unfold wb_X4_addThing_43
    refine br_lt ((N + 1 : Nat) : Int) (M : Int) (tN (by omega)) (tN (by omega)) (fun h => hend (N + 1) (by omega) b' h1 h2) (fun h => ?_)
    have e : iI ((N + 1 : Nat) : Int) - iI (M : Int) = iI ((N + 1 - M : Nat) : Int) := by rw [iI_sub]; congr 1; omega
    rw [e]
    have hin : vp_in (iI ((N + 1 : Nat) : Int)) 1000 := iI_in (by omega) (by omega) (by omega)
    refine ⟨hin, iI_in (by omega) (by omega) (by omega), hin, nm_r rfl (nm_r (e' := iI (N : Int)) ?_ (ih (by omega) _ ?_ ?_))⟩
    · rw [iI_m1]; congr 1; omega
    · intro s hs
      rw [iI_clN (by omega)]
      unfold upd
      rw [if_neg (by omega)]
      exact h1 s (by omega)
    · intro s hs hs2
      rw [iI_clN (by omega), iI_clN (by omega)]
      unfold upd
      by_cases hsN : s = N + 1
      · rw [if_pos hsN, hsN, if_pos (by omega), h1 _ (by omega), h1 _ (by omega)]
      · rw [if_neg hsN]; exact h2 s (by omega) hs2
theorem sp_X4_addThing {P S : Nat} {f b : Nat → Int32} (hP : 0 < P ∧ P ≤ 99) (hS : S ≤ 9) (hb : ∀ s, s < 1000 → b s = f s) {Q : (Nat → Int32) → Prop} (hQ : ∀ b : Nat → Int32, (∀ s, s < 1000 → b s = wo P (S + 1) f s) → Q b) : wp_X4_addThing (iI (P : Int)) (iI (S : Int)) b Q := by
  unfold wp_X4_addThing
  refine ⟨1000 - P + 1, ?_⟩
  refine lo_X4_addThing_2 hP (K := fun k => wx_X4_addThing_2 (iI (P : Int)) (iI (S : Int)) k Q) ?_ (1000 - P) P (by omega) (Nat.le_refl P) b (fun s hs => ?_) (fun s _ hs => hb s hs)
  · intro u hu
    show wx_X4_addThing_2 _ _ _ _
    unfold wx_X4_addThing_2
    have hm := mul_b (show S + 1 ≤ 10 by omega) hP.2
    have e : iI (P : Int) * (iI (S : Int) + (1 : Int32)) = iI (((S + 1) * P : Nat) : Int) := by
      rw [show iI (S : Int) + (1 : Int32) = iI ((S + 1 : Nat) : Int) from iI_add _ 1, iI_mul, Int.natCast_mul, Int.mul_comm]
    have h0 : 0 < (S + 1) * P := Nat.mul_pos (by omega) hP.1
    refine nm_r e ⟨1000, ?_⟩
    refine lo_X4_addThing_43 (M := (S + 1) * P) (b := u) ⟨h0, by omega⟩ (K := fun k => wx_X4_addThing_43 k Q) ?_ 999 (by omega) u (fun s _ => rfl) (fun s h1 h2 => absurd h1 (by omega))
    intro b' hb'
    refine hQ b' (fun s hs => ?_)
    rw [hb' s hs, wo_rec hu (S + 1) s hs]
  · rw [if_neg (by omega), hb s (by omega)]
    exact (Int32.add_zero _).symm
/-- a tally: not counted, or it tells the baskets -/
def TYx (T : Tn) (baskets : Nat → Int32) (counted : Int32) : Prop := counted = 0 ∨ (counted = 1 ∧ ∀ s, s < 1000 → baskets s = wy T s)
theorem lo_X4_count {T : Tn} {price stock : Nat → Int32} (hT : Tok T) (hp : aN price (tP T) 6) (hst : aN stock (tS T) 6) {K : (Nat → Int32) → Prop} (hK : ∀ b : Nat → Int32, (∀ s, s < 1000 → b s = wy T s) → K b) :
    ∀ r t, t + r = 6 → ∀ b : Nat → Int32, (∀ s, s < 1000 → b s = fwd (wt T 63) t d1 s) → wl_X4_count_25 price stock K (r + 1) (iI (t : Int)) b := by
  intro r
  induction r with
  | zero =>
    intro t ht b h1
    show wb_X4_count_25 _ _ _ _ _ _
    unfold wb_X4_count_25
    refine br_le 6 (t : Int) rfl (tN (by omega)) (fun _ => hK _ ?_) (fun h => absurd h (by omega))
    have : t = 6 := by omega
    subst this
    exact h1
  | succ r ih =>
    intro t ht b h1
    have ht6 : t < 6 := by omega
    have hbT := hT.1 t ht6
    have hbit : ∀ t : Nat, t < 6 → Nat.testBit 63 t = true := by decide
    show wb_X4_count_25 _ _ _ _ _ _
    unfold wb_X4_count_25
    refine br_le 6 (t : Int) rfl (tN (by omega)) (fun h => absurd h (by omega)) (fun _ => ?_)
    have en : iI (t : Int) + 1 = iI ((t + 1 : Nat) : Int) := iI_add _ 1
    refine sp_X5_isSold_t hT hp ht6 (bz_e (fun hn => nm_r en (ih (t + 1) (by omega) b ?_)) (fun hy => ?_))
    · have e : fwd (wt T 63) (t + 1) d1 = fwd (wt T 63) t d1 := by
        show wt T 63 t _ = _
        unfold wt nS
        rw [if_neg (by unfold sold; rw [decide_eq_false hn, Bool.and_false]; decide)]
        exact wo_one _ _
      rw [e]; exact h1
    · refine ⟨iI_in (by omega) (by omega) (by omega), iI_in (by omega) (by omega) (by omega), ?_⟩
      rw [iI_clN (by omega), hp t ht6, hst t ht6]
      refine sp_X4_addThing ⟨hy, hbT.1⟩ hbT.2.1 h1 (fun b' hb' => nm_r en (ih (t + 1) (by omega) b' ?_))
      have e : fwd (wt T 63) (t + 1) d1 = wo (tP T t) (tS T t + 1) (fwd (wt T 63) t d1) := by
        show wt T 63 t _ = _
        unfold wt nS
        rw [if_pos (by unfold sold; rw [hbit t ht6, decide_eq_true hy]; rfl)]
      rw [e]; exact hb'
theorem sp_X4_count {T : Tn} {price stock b : Nat → Int32} {co : Int32} (hT : Tok T) (hp : aN price (tP T) 6) (hst : aN stock (tS T) 6) (hy : TYx T b co) {Q : (Nat → Int32) → Int32 → Prop} (hQ : ∀ b : Nat → Int32, (∀ s, s < 1000 → b s = wy T s) → Q b 1) : wp_X4_count price stock b co Q := by
  unfold wp_X4_count
  refine ⟨fun _ => ?_, fun h => ?_⟩
  · show wp_J7_fill_53178 _ _ _ _
    unfold wp_J7_fill_53178
    refine nm_r rfl ⟨7, ?_⟩
    refine lo_X4_count hT hp hst (K := fun k => wx_X4_count_25 k Q) hQ 6 0 (by omega) _ (fun s hs => ?_)
    show upd _ _ _ s = d1 s
    unfold upd d1
    by_cases h0 : s = 0
    · subst h0; rfl
    · rw [if_neg (by simpa using h0), if_neg h0]
      show (if s < 1000 then (0 : Int32) else b s) = 0
      rw [if_pos hs]
  · rcases hy with h1 | ⟨h1, h2⟩
    · exact absurd h1 h
    · rw [h1]; exact hQ b h2
theorem sp_X4_at {T : Tn} {b : Nat → Int32} (hb : ∀ s, s < 1000 → b s = wy T s) {x : Int32} (hx : 0 ≤ x.toInt ∧ x.toInt ≤ 999) {Q : Int32 → Prop} (hQ : Q (wy T x.toInt.toNat)) : wp_X4_at x b Q := by
  unfold wp_X4_at
  refine sp_X6_isSum (bz_e (fun h => absurd hx h) (fun h => ⟨vp_in_iff.mpr ⟨h.1, by omega⟩, ?_⟩))
  rw [show b (Int32.toNatClampNeg x) = wy T x.toInt.toNat from hb x.toInt.toNat (by omega)]
  exact hQ
