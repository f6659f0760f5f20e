/-! the shelf's questions -/
/-- the worth in a rank; how many of thing i -/
def rw_ (r : Int) : Int := (r + 999999) / 1000000
def rc_ (r : Int) (i : Nat) : Int := ((rw_ r * 1000000 - r) / (p10 i : Int)) % 10
theorem rk_b {T : Tn} (hT : Tok T) {m s : Nat} {r : Int} (h : rk T m s = some r) : -1000000 < r ∧ r < 1000000000000 := by
  have := fwd_b T hT m 6 (by omega) s r h
  have e : ((10 ^ (6 - 6) : Nat) : Int) = 1 := rfl
  omega
theorem sp_X3_comesOut {T : Tn} (hT : Tok T) {m : Nat} {ranks : Nat → Int64} (hr : RKs T m ranks) {x : Int32} {Q : Int32 → Prop} (hQ : Q (bz ((0 ≤ x.toInt ∧ x.toInt ≤ 999) ∧ (rk T m x.toInt.toNat).isSome = true))) : wp_X3_comesOut x ranks Q := by
  unfold wp_X3_comesOut
  refine br_lt _ 0 rfl rfl (fun h => ?_) (fun h => br_le 1000 _ rfl rfl (fun h2 => ?_) (fun h2 => ⟨vp_in_iff.mpr ⟨h, by omega⟩, ?_⟩))
  · rw [bz_f (by omega)] at hQ; exact hQ
  · rw [bz_f (by omega)] at hQ; exact hQ
  · have e : ranks (Int32.toNatClampNeg x) = enc (rk T m x.toInt.toNat) := hr x.toInt.toNat (by omega)
    rw [e]
    cases hk : rk T m x.toInt.toNat with
    | none =>
      rw [hk] at hQ
      refine br_c0 (-1000000) (-1000000) rfl rfl (fun _ => ?_) (fun h => absurd rfl h)
      rw [bz_f (fun q => by cases q.2)] at hQ; exact hQ
    | some r =>
      rw [hk] at hQ
      have hb := rk_b hT hk
      refine br_c0 r (-1000000) (tJ (by omega)) rfl (fun h => absurd h (by omega)) (fun _ => ?_)
      rw [bz_t ⟨by omega, rfl⟩] at hQ; exact hQ
/-- of a sum that lies in the row: does it come out -/
theorem sp_X3_comesOut_n {T : Tn} (hT : Tok T) {m : Nat} {ranks : Nat → Int64} (hr : RKs T m ranks) {s : Nat} (hs : s < 1000) {Q : Int32 → Prop} (hQ : Q (bz ((rk T m s).isSome = true))) : wp_X3_comesOut (iI (s : Int)) ranks Q := by
  refine sp_X3_comesOut hT hr ?_
  have e : (iI (s : Int)).toInt = s := tN (by omega)
  by_cases h : (rk T m s).isSome = true
  · rw [bz_t h] at hQ
    rw [bz_t ⟨by omega, by rw [e]; exact h⟩]
    exact hQ
  · rw [bz_f h] at hQ
    rw [bz_f (fun q => h (by have := q.2; rw [e] at this; exact this))]
    exact hQ
theorem sp_X3_worthIn {r : Int} (hb : -1000000 < r ∧ r < 1000000000000) {Q : Int32 → Prop} (hQ : Q (iI (rw_ r))) : wp_X3_worthIn (lI r) Q := by
  unfold wp_X3_worthIn
  have e1 : lI r + (1000000 : Int64) - (1 : Int64) = lI (r + 999999) := by
    refine (congrArg (fun z => z - (1 : Int64)) (lI_add r 1000000)).trans ((lI_sub _ 1).trans ?_)
    congr 1; omega
  rw [e1]
  have e2 : lI (r + 999999) / (1000000 : Int64) = lI (rw_ r) := by
    rw [← Int64.toInt_inj, Jvm.Kit.i64_div (fun h => absurd h.2 (by decide)), tJ (by omega)]
    have e3 : (1000000 : Int64).toInt = 1000000 := rfl
    rw [e3, Int.tdiv_eq_ediv_of_nonneg (by omega), tJ (by unfold rw_; omega)]
    rfl
  rw [e2, lI_i _ (by unfold rw_; omega) (by unfold rw_; omega)]
  exact hQ
theorem sp_X3_worthAt {T : Tn} (hT : Tok T) {m : Nat} {ranks : Nat → Int64} (hr : RKs T m ranks) {s : Nat} (hs : s < 1000) {Q : Int32 → Prop} (hQ : Q (iI (match rk T m s with | none => 0 | some r => rw_ r))) : wp_X3_worthAt (iI (s : Int)) ranks Q := by
  unfold wp_X3_worthAt
  refine sp_X3_comesOut_n hT hr hs (bz_e (fun h => ?_) (fun h => ⟨iI_in (by omega) (by omega) (by omega), ?_⟩))
  · cases hk : rk T m s with
    | none => rw [hk] at hQ; exact hQ
    | some r => rw [hk] at h; exact absurd rfl h
  · rw [iI_clN (by omega), hr s hs]
    cases hk : rk T m s with
    | none => rw [hk] at h; exact absurd h (by decide)
    | some r =>
      rw [hk] at hQ
      exact sp_X3_worthIn (rk_b hT hk) hQ
theorem lo_X3_countAt {c : Int} (hc : 0 ≤ c ∧ c < 1000000000000) (t : Nat) (ht : t < 6) {K : Int64 → Prop} (hK : K (lI (c / (p10 t : Int)))) :
    ∀ r j, t + 1 + j + r = 6 → wl_X3_countAt_37 K (r + 1) (lI (c / ((10 ^ j : Nat) : Int))) (iI ((t + 1 + j : Nat) : Int)) := by
  intro r
  induction r with
  | zero =>
    intro j hj
    have e : 5 - t = j := by omega
    show wb_X3_countAt_37 _ _ _ _
    unfold wb_X3_countAt_37
    refine br_le 6 ((t + 1 + j : Nat) : Int) rfl (tN (by omega)) (fun _ => ?_) (fun h => absurd h (by omega))
    rw [← e]; exact hK
  | succ r ih =>
    intro j hj
    show wb_X3_countAt_37 _ _ _ _
    unfold wb_X3_countAt_37
    have hq : 0 ≤ c / ((10 ^ j : Nat) : Int) ∧ c / ((10 ^ j : Nat) : Int) ≤ c := ⟨Int.ediv_nonneg hc.1 (Int.natCast_nonneg _), Int.ediv_le_self _ hc.1⟩
    refine br_le 6 ((t + 1 + j : Nat) : Int) rfl (tN (by omega)) (fun h => absurd h (by omega)) (fun _ => ?_)
    refine nm_r (e' := lI (c / ((10 ^ (j + 1) : Nat) : Int))) ?_ (nm_r (e' := iI ((t + 1 + (j + 1) : Nat) : Int)) (iI_add _ 1) (ih (j + 1) (by omega)))
    rw [← Int64.toInt_inj, Jvm.Kit.i64_div (fun h => absurd h.2 (by decide)), tJ (by omega)]
    have e3 : (10 : Int64).toInt = 10 := rfl
    have e4 : c / ((10 ^ (j + 1) : Nat) : Int) = c / ((10 ^ j : Nat) : Int) / 10 := by
      rw [Nat.pow_succ, Int.natCast_mul, Int.ediv_ediv_of_nonneg (Int.natCast_nonneg _)]
      rfl
    rw [e3, Int.tdiv_eq_ediv_of_nonneg hq.1, e4, tJ (by omega)]
theorem rw_b {r : Int} (hb : -1000000 < r ∧ r < 1000000000000) : 0 ≤ rw_ r ∧ rw_ r ≤ 1000001 ∧ 0 ≤ rw_ r * 1000000 - r ∧ rw_ r * 1000000 - r < 1000000 := by
  unfold rw_
  omega
theorem sp_X3_countAt {T : Tn} (hT : Tok T) {m : Nat} {ranks : Nat → Int64} (hr : RKs T m ranks) {s i : Nat} (hs : s < 1000) (hi : i < 6) {Q : Int32 → Prop} (hQ : Q (iI (match rk T m s with | none => 0 | some r => rc_ r i))) : wp_X3_countAt (iI (s : Int)) (iI (i : Int)) ranks Q := by
  unfold wp_X3_countAt
  have hin : vp_in (iI (s : Int)) 1000 := iI_in (by omega) (by omega) (by omega)
  refine sp_X3_comesOut_n hT hr hs (bz_n (fun h => ⟨hin, ?_⟩) (fun h => ?_))
  · rw [iI_clN (by omega), hr s hs]
    cases hk : rk T m s with
    | none => rw [hk] at h; exact absurd h (by decide)
    | some r =>
      rw [hk] at hQ
      have hb := rk_b hT hk
      have hw := rw_b hb
      refine sp_X3_worthIn hb ⟨hin, ?_⟩
      refine nm_r (e' := lI (rw_ r * 1000000 - r)) ?_ (nm_r (e' := iI ((i + 1 : Nat) : Int)) (iI_add _ 1) ⟨5 - i + 1, ?_⟩)
      · rw [iI_l (by omega) (by omega)]
        exact (congrArg (fun z => z - _) (lI_mul _ 1000000)).trans (lI_sub _ _)
      · have := lo_X3_countAt (c := rw_ r * 1000000 - r) (by omega) i hi (K := fun k_x3 => wx_X3_countAt_37 k_x3 Q) ?_ (5 - i) 0 (by omega)
        · have e0 : (rw_ r * 1000000 - r) / ((10 ^ 0 : Nat) : Int) = rw_ r * 1000000 - r := Int.ediv_one _
          rw [e0] at this
          exact this
        · show wx_X3_countAt_37 _ _
          unfold wx_X3_countAt_37
          have hq : 0 ≤ (rw_ r * 1000000 - r) / (p10 i : Int) ∧ (rw_ r * 1000000 - r) / (p10 i : Int) ≤ rw_ r * 1000000 - r := ⟨Int.ediv_nonneg (by omega) (by omega), Int.ediv_le_self _ (by omega)⟩
          have e : lI ((rw_ r * 1000000 - r) / (p10 i : Int)) - lI ((rw_ r * 1000000 - r) / (p10 i : Int)) / (10 : Int64) * (10 : Int64) = lI (rc_ r i) := by
            rw [← Int64.toInt_inj, Jvm.Kit.i64_rem_nonneg (by rw [tJ (by omega)]; omega), tJ (by omega), tJ (by unfold rc_; omega)]
            rfl
          rw [e, lI_i _ (by unfold rc_; omega) (by unfold rc_; omega)]
          exact hQ
  · cases hk : rk T m s with
    | none => rw [hk] at hQ; exact hQ
    | some r => rw [hk] at h; exact absurd rfl h
