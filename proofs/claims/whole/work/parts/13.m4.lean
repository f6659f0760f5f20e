/-! the shelf -/
theorem iI_m1 (a : Int) : iI a + (-1) = iI (a - 1) := by
  rw [show (-1 : Int32) = iI (-1) from by decide +kernel, iI_add]
  rfl
theorem mo_succ (P : Nat) (g : Nat → Int) (n : Nat) (f : Nat → Option Int) (s : Nat) : mo P g (n + 1) f s = omax (mo P g n f s) (if n * P ≤ s then (f (s - n * P)).map (fun v => v + g n) else none) := rfl
theorem mo_stop {P : Nat} {g : Nat → Int} {f : Nat → Option Int} {s j : Nat} (h : s < j * P) : ∀ n, j ≤ n → mo P g n f s = mo P g j f s := by
  intro n
  induction n with
  | zero => intro hj; rw [show j = 0 by omega]
  | succ n ih =>
    intro hj
    by_cases e : j = n + 1
    · rw [e]
    · have h2 : j * P ≤ n * P := Nat.mul_le_mul_right P (by omega)
      rw [mo_succ, if_neg (by omega), omax_none, ih (by omega)]
theorem mo_zero {P : Nat} {g : Nat → Int} {f : Nat → Option Int} (hP : 0 < P) (hg : g 0 = 0) {n : Nat} (hn : 1 ≤ n) : mo P g n f 0 = f 0 := by
  rw [mo_stop (j := 1) (by omega) n hn, mo_one P g hg]
theorem mo_some {P : Nat} {g : Nat → Int} {f : Nat → Option Int} {s : Nat} {r : Int} : ∀ n, mo P g n f s = some r → ∃ (k : Nat) (x : Int), k < n ∧ k * P ≤ s ∧ f (s - k * P) = some x ∧ r = x + g k := by
  intro n
  induction n with
  | zero => intro h; cases h
  | succ n ih =>
    intro h
    rw [mo_succ] at h
    cases h1 : mo P g n f s with
    | none =>
      rw [h1] at h
      by_cases hP : n * P ≤ s
      · rw [if_pos hP] at h
        cases h2 : f (s - n * P) with
        | none => rw [h2] at h; cases h
        | some x =>
          rw [h2] at h
          cases h
          exact ⟨n, x, by omega, hP, h2, rfl⟩
      · rw [if_neg hP] at h; cases h
    | some y =>
      rw [h1] at h ih
      by_cases hP : n * P ≤ s
      · rw [if_pos hP] at h
        cases h2 : f (s - n * P) with
        | none =>
          rw [h2] at h
          cases h
          obtain ⟨k, x, a, b, c, d⟩ := ih rfl
          exact ⟨k, x, by omega, b, c, d⟩
        | some x =>
          rw [h2] at h
          have h3 : (if y ≤ x + g n then x + g n else y) = r := by simpa [omax] using h
          by_cases hy : y ≤ x + g n
          · rw [if_pos hy] at h3
            exact ⟨n, x, by omega, hP, h2, h3.symm⟩
          · rw [if_neg hy] at h3
            obtain ⟨k, x2, a, b, c, d⟩ := ih (by rw [h3])
            exact ⟨k, x2, by omega, b, c, d⟩
      · rw [if_neg hP] at h
        cases h
        obtain ⟨k, x, a, b, c, d⟩ := ih rfl
        exact ⟨k, x, by omega, b, c, d⟩
theorem mo_none {P : Nat} {g : Nat → Int} {f : Nat → Option Int} {s : Nat} (h : ∀ k, k * P ≤ s → f (s - k * P) = none) : ∀ n, mo P g n f s = none := by
  intro n
  induction n with
  | zero => rfl
  | succ n ih =>
    rw [mo_succ, ih]
    by_cases hP : n * P ≤ s
    · rw [if_pos hP, h n hP]; rfl
    · rw [if_neg hP]; rfl
/-- a rank as the machine has it -/
def enc (o : Option Int) : Int64 := match o with
  | none => lI (-1000000)
  | some r => lI r
/-- ranks in their bounds, also with what a thing adds -/
def Bd (f : Nat → Option Int) (g : Nat → Int) : Prop := ∀ s x, f s = some x → (-1000000 < x ∧ x < 1000000000000) ∧ ∀ k, k < 10 → -1000000 < x + g k ∧ x + g k < 1000000000000
theorem Bd_mo {P : Nat} {f : Nat → Option Int} {g : Nat → Int} (h : Bd f g) {n : Nat} (hn : n ≤ 10) {s : Nat} {r : Int} (hr : mo P g n f s = some r) : -1000000 < r ∧ r < 1000000000000 := by
  obtain ⟨k, x, a, -, c, d⟩ := mo_some n hr
  have := (h _ _ c).2 k (by omega)
  omega
theorem lo_X3_bestRank {P S N : Nat} {g : Nat → Int} {f : Nat → Option Int} {gains ranks : Nat → Int64} (hP : 0 < P ∧ P ≤ 99) (hS : S ≤ 9) (hN : N < 1000) (hg : ∀ k, k < 10 → gains k = lI (g k)) (hr : ∀ s, s ≤ N → ranks s = enc (f s)) (hb : Bd f g) {K : Int64 → Prop} (hK : K (enc (mo P g (S + 1) f N))) :
    ∀ r j, j + r = S + 1 → wl_X3_bestRank_11 (iI (P : Int)) (iI (S : Int)) gains ranks K (r + 1) (enc (mo P g j f N)) (iI ((N : Int) - ((j * P : Nat) : Int))) (iI (j : Int)) := by
  intro r
  induction r with
  | zero =>
    intro j hj
    show wb_X3_bestRank_11 _ _ _ _ _ _ _ _ _
    unfold wb_X3_bestRank_11
    refine br_lt (S : Int) (j : Int) (tN (by omega)) (tN (by omega)) (fun _ => ?_) (fun h => absurd h (by omega))
    rw [show j = S + 1 by omega]; exact hK
  | succ r ih =>
    intro j hj
    have hm := mul_b (show j ≤ 9 by omega) hP.2
    show wb_X3_bestRank_11 _ _ _ _ _ _ _ _ _
    unfold wb_X3_bestRank_11
    refine br_lt (S : Int) (j : Int) (tN (by omega)) (tN (by omega)) (fun h => absurd h (by omega)) (fun _ => ?_)
    refine br_le 10 (j : Int) rfl (tN (by omega)) (fun h => absurd h (by omega)) (fun _ => ?_)
    refine br_lt ((N : Int) - ((j * P : Nat) : Int)) 0 (tI (by omega)) rfl (fun h => ?_) (fun h => ?_)
    · rw [← mo_stop (n := S + 1) (by omega) (by omega)]; exact hK
    · have hjN : j * P ≤ N := by omega
      refine ⟨iI_in (by omega) (by omega) (by omega), ?_⟩
      have e1 : Int32.toNatClampNeg (iI ((N : Int) - ((j * P : Nat) : Int))) = N - j * P := by rw [iI_cl (by omega) (by omega)]; omega
      have e2 : iI ((N : Int) - ((j * P : Nat) : Int)) - iI (P : Int) = iI ((N : Int) - (((j + 1) * P : Nat) : Int)) := by
        rw [iI_sub, Nat.succ_mul]; congr 1; omega
      have e3 : iI (j : Int) + 1 = iI ((j + 1 : Nat) : Int) := iI_add _ 1
      have hs : mo P g (j + 1) f N = omax (mo P g j f N) ((f (N - j * P)).map (fun v => v + g j)) := by rw [mo_succ, if_pos hjN]
      have hI := ih (j + 1) (by omega)
      refine nm_r (e' := enc (f (N - j * P))) (by rw [e1]; exact hr _ (by omega)) ?_
      cases hf : f (N - j * P) with
      | none =>
        rw [hf] at hs
        refine br_c0 (-1000000) (-1000000) rfl rfl (fun _ => ?_) (fun h => absurd rfl h)
        refine nm_r e2 (nm_r e3 ?_)
        rw [hs] at hI
        simpa only [Option.map, omax_none] using hI
      | some x =>
        rw [hf] at hs
        obtain ⟨⟨b1, b2⟩, b3⟩ := hb _ _ hf
        have b4 := b3 j (by omega)
        refine br_c0 x (-1000000) (tJ (by omega)) rfl (fun h => absurd h (by omega)) (fun _ => ⟨iI_in (by omega) (by omega) (by omega), ?_⟩)
        have e4 : (enc (some x) + gains (Int32.toNatClampNeg (iI (j : Int)))) = lI (x + g j) := by
          rw [iI_clN (by omega), hg j (by omega)]; exact lI_add _ _
        rw [e4]
        cases hmo : mo P g j f N with
        | none =>
          rw [hmo] at hs
          refine br_cle (x + g j) (-1000000) (tJ (by omega)) rfl (fun h => absurd h (by omega)) (fun _ => ⟨iI_in (by omega) (by omega) (by omega), nm_r rfl (nm_r e2 (nm_r e3 ?_))⟩)
          rw [hs] at hI
          exact hI
        | some y =>
          have hy := Bd_mo hb (by omega) hmo
          rw [hmo] at hs
          refine br_cle (x + g j) y (tJ (by omega)) (tJ (by omega)) (fun h => ?_) (fun h => ⟨iI_in (by omega) (by omega) (by omega), nm_r rfl (nm_r e2 (nm_r e3 ?_))⟩)
          · refine nm_r e2 (nm_r e3 ?_)
            rw [hs] at hI
            have e5 : omax (some y) (Option.map (fun v => v + g j) (some x)) = some y := by
              show some (if y ≤ x + g j then x + g j else y) = some y
              congr 1; split <;> omega
            rw [e5] at hI
            exact hI
          · rw [hs] at hI
            have e5 : omax (some y) (Option.map (fun v => v + g j) (some x)) = some (x + g j) := by
              show some (if y ≤ x + g j then x + g j else y) = some (x + g j)
              congr 1; split <;> omega
            rw [e5] at hI
            exact hI
theorem sp_X3_bestRank {P S N : Nat} {g : Nat → Int} {f : Nat → Option Int} {gains ranks : Nat → Int64} (hP : 0 < P ∧ P ≤ 99) (hS : S ≤ 9) (hN : N < 1000) (hg : ∀ k, k < 10 → gains k = lI (g k)) (hr : ∀ s, s ≤ N → ranks s = enc (f s)) (hb : Bd f g) {Q : Int64 → Prop} (hQ : Q (enc (mo P g (S + 1) f N))) : wp_X3_bestRank (iI (N : Int)) (iI (P : Int)) (iI (S : Int)) gains ranks Q := by
  unfold wp_X3_bestRank
  refine nm_r (e' := enc none) rfl ⟨S + 2, ?_⟩
  have := lo_X3_bestRank hP hS hN hg hr hb (K := fun k_x4 => wx_X3_bestRank_11 k_x4 Q) hQ (S + 1) 0 (by omega)
  rw [Nat.zero_mul] at this
  have e : ((N : Int) - ((0 : Nat) : Int)) = (N : Int) := by omega
  rw [e] at this
  exact this
theorem lo_X3_addThing {P S : Nat} {g : Nat → Int} {f : Nat → Option Int} {gains : Nat → Int64} (hP : 0 < P ∧ P ≤ 99) (hS : S ≤ 9) (hg : ∀ k, k < 10 → gains k = lI (g k)) (hb : Bd f g) {K : (Nat → Int64) → Prop} (hK : ∀ ranks : Nat → Int64, ranks 0 = enc (f 0) → (∀ s, 0 < s → s < 1000 → ranks s = enc (mo P g (S + 1) f s)) → K ranks) :
    ∀ N, N < 1000 → ∀ ranks : Nat → Int64, (∀ s, s ≤ N → ranks s = enc (f s)) → (∀ s, N < s → s < 1000 → ranks s = enc (mo P g (S + 1) f s)) → wl_X3_addThing_23 (iI (P : Int)) (iI (S : Int)) gains K (N + 1) (iI (N : Int)) ranks := by
  intro N
  induction N with
  | zero =>
    intro _ ranks h1 h2
    show wb_X3_addThing_23 _ _ _ _ _ _ _
    unfold wb_X3_addThing_23
    exact br_le ((0 : Nat) : Int) 0 (tN (by omega)) rfl (fun _ => hK ranks (h1 0 (by omega)) (fun s hs h => h2 s hs h)) (fun h => absurd h (by omega))
  | succ N ih =>
    intro hN ranks h1 h2
    show wb_X3_addThing_23 _ _ _ _ _ _ _
    unfold wb_X3_addThing_23
    refine br_le ((N + 1 : Nat) : Int) 0 (tN (by omega)) rfl (fun h => absurd h (by omega)) (fun _ => ?_)
    refine sp_X3_bestRank hP hS hN hg h1 hb ⟨iI_in (by omega) (by omega) (by omega), nm_r rfl (nm_r (e' := iI (N : Int)) ?_ (ih (by omega) _ ?_ ?_))⟩
    · rw [iI_m1]; congr 1; omega
    · intro s hs
      rw [iI_clN (by omega)]
      unfold vp_updL
      rw [if_neg (by omega)]
      exact h1 s (by omega)
    · intro s hs hs2
      rw [iI_clN (by omega)]
      unfold vp_updL
      by_cases e : s = N + 1
      · rw [if_pos e, e]
      · rw [if_neg e]; exact h2 s (by omega) hs2
theorem sp_X3_addThing {P S re : Nat} {g : Nat → Int} {f : Nat → Option Int} {gains ranks : Nat → Int64} (hP : 0 < P ∧ P ≤ 99) (hS : S ≤ 9) (hg : ∀ k, k < 10 → gains k = lI (g k)) (hg0 : g 0 = 0) (hr : ∀ s, s < 1000 → ranks s = enc (f s)) (hb : Bd f g) (hre : re ≤ 999) (hf : ∀ s, s < 1000 → re < s → f s = none) {Q : (Nat → Int64) → Int32 → Prop} (hQ : ∀ (ranks : Nat → Int64) (re : Nat), (∀ s, s < 1000 → ranks s = enc (mo P g (S + 1) f s)) → re ≤ 999 → (∀ s, s < 1000 → re < s → mo P g (S + 1) f s = none) → Q ranks (iI (re : Int))) : wp_X3_addThing (iI (P : Int)) (iI (S : Int)) gains ranks (iI (re : Int)) Q := by
  unfold wp_X3_addThing
  have hm := mul_b hP.2 hS
  have hfar : ∀ s, s < 1000 → min 999 (re + P * S) < s → mo P g (S + 1) f s = none := by
    intro s hs hlt
    have : ∀ n, n ≤ S + 1 → mo P g n f s = none := by
      intro n
      induction n with
      | zero => intro _; rfl
      | succ n ih =>
        intro hn
        rw [mo_succ, ih (by omega)]
        have h3 : n * P ≤ P * S := by rw [Nat.mul_comm P S]; exact Nat.mul_le_mul_right P (by omega)
        by_cases hP2 : n * P ≤ s
        · rw [if_pos hP2, hf _ (by omega) (by omega)]; rfl
        · rw [if_neg hP2]; rfl
    exact this _ (Nat.le_refl _)
  have e : (if (iI (re : Int) + (iI (P : Int) * iI (S : Int))) < (999 : Int32) then (iI (re : Int) + (iI (P : Int) * iI (S : Int))) else (999 : Int32)) = iI ((min 999 (re + P * S) : Nat) : Int) := by
    rw [iI_mul, iI_add, ← Int.natCast_mul]
    refine Eq.trans (iI_min (a := 999) (b := (re : Int) + ((P * S : Nat) : Int)) (by omega) (by omega) (by omega) (by omega)) ?_
    congr 1
    omega
  refine nm_r e ⟨min 999 (re + P * S) + 1, ?_⟩
  refine lo_X3_addThing hP hS hg hb (K := fun k_s_ranks => wx_X3_addThing_23 k_s_ranks _ Q) ?_ (min 999 (re + P * S)) (by omega) ranks (fun s hs => hr s (by omega)) ?_
  · intro ranks h0 h1
    refine hQ ranks (min 999 (re + P * S)) (fun s hs => ?_) (by omega) hfar
    by_cases h : s = 0
    · subst h; rw [h0, mo_zero hP.1 hg0 (by omega)]
    · exact h1 s (by omega) hs
  · intro s h1 h2
    rw [hr s h2, hfar s h2 h1, hf s h2 (by omega)]
/-! fill -/
theorem bit_t : ∀ m : Nat, m < 64 → ∀ t : Nat, t < 6 → (((iI (m : Int) >>> (iI (t : Int) &&& 31)) &&& (1 : Int32)) = 1 ↔ Nat.testBit m t = true) := by decide +kernel
theorem gk_b (T : Tn) (hT : Tok T) {t k : Nat} (ht : t < 6) (hk : k < 10) : -(9 * (p10 t : Int)) ≤ gk T t k ∧ gk T t k ≤ 990000000 := by
  have h1 := wN_b T hT ht (k := k) (by omega)
  have h2 : k * p10 t ≤ 9 * p10 t := Nat.mul_le_mul_right _ (by omega)
  unfold gk
  rw [← Int.natCast_mul]
  omega
theorem p10_s {t : Nat} (ht : t < 6) : 10 ^ (6 - t) = 10 * p10 t := by
  unfold p10
  rw [show 6 - t = (5 - t) + 1 by omega, Nat.pow_succ, Nat.mul_comm]
theorem fwd_b (T : Tn) (hT : Tok T) (m : Nat) : ∀ n, n ≤ 6 → ∀ s r, fwd (ro T m) n dl s = some r → ((10 ^ (6 - n) : Nat) : Int) ≤ r + 1000000 ∧ r ≤ 990000000 * (n : Int) := by
  intro n
  induction n with
  | zero =>
    intro _ s r h
    have h2 : dl s = some r := h
    unfold dl at h2
    by_cases hs : s = 0
    · rw [if_pos hs] at h2; cases h2; exact ⟨by decide, by omega⟩
    · rw [if_neg hs] at h2; cases h2
  | succ n ih =>
    intro hn s r h
    obtain ⟨k, x, a, b, c, d⟩ := mo_some _ (show mo (tP T n) (gk T n) (nS T m n) (fwd (ro T m) n dl) s = some r from h)
    have h1 := ih (by omega) _ _ c
    have h2 := gk_b T hT (show n < 6 by omega) (show k < 10 by have := nS_le T hT m n (by omega); omega)
    have h3 := p10_s (show n < 6 by omega)
    rw [h3] at h1
    have h4 : 10 ^ (6 - (n + 1)) = p10 n := by unfold p10; congr 1; omega
    rw [h4]
    omega
theorem fwd_Bd (T : Tn) (hT : Tok T) (m n t : Nat) (hn : n ≤ 6) (ht : t < 6) (hnt : n ≤ t) : Bd (fwd (ro T m) n dl) (gk T t) := by
  intro s x h
  have h1 := fwd_b T hT m n hn s x h
  have h6 : p10 t * 10 ≤ 10 ^ (6 - n) := by
    have := p10_s ht
    rw [Nat.mul_comm, ← this]
    exact Nat.pow_le_pow_right (by decide) (by omega)
  have hp := p10_pos t
  refine ⟨by omega, fun k hk => ?_⟩
  have h2 := gk_b T hT ht hk
  omega
/-- the ranks of a shelf that is filled with the things m -/
def RKs (T : Tn) (m : Nat) (ranks : Nat → Int64) : Prop := ∀ s, s < 1000 → ranks s = enc (rk T m s)
/-- a shelf: empty, or filled with some things -/
def SHx (T : Tn) (fw : Int32) (ranks : Nat → Int64) : Prop := fw = iI (-1) ∨ ∃ m : Nat, m < 64 ∧ fw = iI (m : Int) ∧ RKs T m ranks
theorem lo_X3_fill {T : Tn} {less price stock worth : Nat → Int32} (hT : Tok T) (hp : aN price (tP T) 6) (hst : aN stock (tS T) 6) (hw : aN worth (tW T) 6) (hl : aN less (tL T) 6) {m : Nat} (hm : m < 64) {K : (Nat → Int64) → (Nat → Int64) → Int32 → Prop} (hK : ∀ gains ranks reach, RKs T m ranks → K gains ranks reach) :
    ∀ r t, t + r = 6 → ∀ (gains ranks : Nat → Int64) (re : Nat), (∀ s, s < 1000 → ranks s = enc (fwd (ro T m) t dl s)) → re ≤ 999 → (∀ s, s < 1000 → re < s → fwd (ro T m) t dl s = none) → wl_X3_fill_33 (iI (m : Int)) less price stock worth K (r + 1) (iI (t : Int)) gains ranks (iI (re : Int)) := by
  intro r
  induction r with
  | zero =>
    intro t ht gains ranks re h1 h2 h3
    show wb_X3_fill_33 _ _ _ _ _ _ _ _ _ _ _
    unfold wb_X3_fill_33
    refine br_le 6 (t : Int) rfl (tN (by omega)) (fun _ => hK _ _ _ ?_) (fun h => absurd h (by omega))
    have : t = 6 := by omega
    subst this
    exact h1
  | succ r ih =>
    intro t ht gains ranks re h1 h2 h3
    have ht6 : t < 6 := by omega
    have hbT := hT.1 t ht6
    show wb_X3_fill_33 _ _ _ _ _ _ _ _ _ _ _
    unfold wb_X3_fill_33
    refine br_le 6 (t : Int) rfl (tN (by omega)) (fun h => absurd h (by omega)) (fun _ => ?_)
    have en : iI (t : Int) + 1 = iI ((t + 1 : Nat) : Int) := iI_add _ 1
    have skip : sold T m t = false → wl_X3_fill_33 (iI (m : Int)) less price stock worth K (r + 1) (iI ((t + 1 : Nat) : Int)) gains ranks (iI (re : Int)) := by
      intro hso
      have e : fwd (ro T m) (t + 1) dl = fwd (ro T m) t dl := ro_un T m t hso _
      exact ih (t + 1) (by omega) gains ranks re (by rw [e]; exact h1) h2 (by rw [e]; exact h3)
    refine ⟨fun h => nm_r en (skip ?_), fun h => ?_⟩
    · unfold sold
      have : Nat.testBit m t = false := by
        cases hq : Nat.testBit m t with
        | false => rfl
        | true => exact absurd ((bit_t m hm t ht6).mpr hq) h
      rw [this]; rfl
    · have hbit : Nat.testBit m t = true := (bit_t m hm t ht6).mp (Classical.not_not.mp h)
      refine sp_X5_isSold_t hT hp ht6 (bz_e (fun hn => nm_r en (skip ?_)) (fun hy => ?_))
      · unfold sold; rw [hbit, decide_eq_false hn]; rfl
      · refine sp_X3_weigh hT hw hl ht6 (fun gains hg => ⟨iI_in (by omega) (by omega) (by omega), iI_in (by omega) (by omega) (by omega), ?_⟩)
        rw [iI_clN (by omega), hp t ht6, hst t ht6]
        refine sp_X3_addThing ⟨hy, hbT.1⟩ hbT.2.1 hg (gk_0 T t) h1 (fwd_Bd T hT m t t (by omega) ht6 (Nat.le_refl t)) h2 h3 (fun ranks re g1 g2 g3 => nm_r en ?_)
        have e : fwd (ro T m) (t + 1) dl = mo (tP T t) (gk T t) (tS T t + 1) (fwd (ro T m) t dl) := by
          show ro T m t _ = _
          unfold ro nS
          rw [if_pos (by unfold sold; rw [hbit, decide_eq_true hy]; rfl)]
        exact ih (t + 1) (by omega) gains ranks re (by rw [e]; exact g1) g2 (by rw [e]; exact g3)
theorem sp_X3_fill {T : Tn} {less price stock worth : Nat → Int32} (hT : Tok T) (hp : aN price (tP T) 6) (hst : aN stock (tS T) 6) (hw : aN worth (tW T) 6) (hl : aN less (tL T) 6) {m : Nat} (hm : m < 64) {fw reach : Int32} {gains ranks : Nat → Int64} (hs : SHx T fw ranks) {Q : Int32 → (Nat → Int64) → (Nat → Int64) → Int32 → Prop} (hQ : ∀ gains ranks reach, RKs T m ranks → Q (iI (m : Int)) gains ranks reach) : wp_X3_fill (iI (m : Int)) less price stock worth fw gains ranks reach Q := by
  unfold wp_X3_fill
  refine ⟨fun h => ?_, fun h => ?_⟩
  · show wp_J7_fill_d0a16 _ _ _ _
    unfold wp_J7_fill_d0a16
    refine nm_r rfl ⟨7, ?_⟩
    refine lo_X3_fill hT hp hst hw hl hm (K := fun a b c => wx_X3_fill_33 (iI (m : Int)) a b c Q) hQ 6 0 (by omega) _ _ 0 ?_ (by omega) ?_
    · intro s hs
      show vp_updL _ _ _ s = enc (dl s)
      unfold vp_updL dl
      by_cases h0 : s = 0
      · subst h0; rfl
      · rw [if_neg (by simpa using h0)]
        show (if s < 1000 then (-1000000 : Int64) else ranks s) = _
        rw [if_pos hs, if_neg h0]; rfl
    · intro s _ h0
      show dl s = none
      unfold dl
      rw [if_neg (by omega)]
  · have e : fw = iI (m : Int) := Classical.not_not.mp h
    rcases hs with h1 | ⟨m', h1, h2, h3⟩
    · rw [h1] at e
      have := (iI_eq (by omega) (by omega) (by omega) (by omega)).mp e
      omega
    · rw [h2] at e
      have := (iI_eq (by omega) (by omega) (by omega) (by omega)).mp e
      have : m' = m := by omega
      subst this
      rw [h2]
      exact hQ _ _ _ h3
