/-! the reference: what comes out, the best basket laid -/
theorem cod6 (d : Nat → Nat) : cod d 0 6 = d 0 * 100000 + (d 1 * 10000 + (d 2 * 1000 + (d 3 * 100 + (d 4 * 10 + d 5)))) := by
  show d 0 * 100000 + (d 1 * 10000 + (d 2 * 1000 + (d 3 * 100 + (d 4 * 10 + (d 5 * 1 + 0))))) = _
  omega
theorem rw_cod {d : Nat → Nat} (hd : ∀ i, d i ≤ 9) {v : Int} : rw_ (v * 1000000 - (cod d 0 6 : Int)) = v := by
  rw [cod6]
  have := hd 0; have := hd 1; have := hd 2; have := hd 3; have := hd 4; have := hd 5
  unfold rw_
  omega
theorem rc_cod {d : Nat → Nat} (hd : ∀ i, d i ≤ 9) {v : Int} {i : Nat} (hi : i < 6) : rc_ (v * 1000000 - (cod d 0 6 : Int)) i = (d i : Int) := by
  have e := rw_cod hd (v := v)
  unfold rc_
  rw [e, cod6]
  have := hd 0; have := hd 1; have := hd 2; have := hd 3; have := hd 4; have := hd 5
  have e5 : (p10 0 : Int) = 100000 ∧ (p10 1 : Int) = 10000 ∧ (p10 2 : Int) = 1000 ∧ (p10 3 : Int) = 100 ∧ (p10 4 : Int) = 10 ∧ (p10 5 : Int) = 1 := ⟨rfl, rfl, rfl, rfl, rfl, rfl⟩
  rcases (show i = 0 ∨ i = 1 ∨ i = 2 ∨ i = 3 ∨ i = 4 ∨ i = 5 by omega) with rfl | rfl | rfl | rfl | rfl | rfl
  · rw [e5.1]; omega
  · rw [e5.2.1]; omega
  · rw [e5.2.2.1]; omega
  · rw [e5.2.2.2.1]; omega
  · rw [e5.2.2.2.2.1]; omega
  · rw [e5.2.2.2.2.2]; omega
/-- the best worth and the rank of one sum -/
theorem best_of (T : Tn) (hT : Tok T) (m s : Nat) : (vS T m 0 s = none ∧ rk T m s = none) ∨ ∃ (r : Int) (d : Nat → Nat), rk T m s = some r ∧ vS T m 0 s = some (rw_ r) ∧ (∀ i, i < 6 → rc_ r i = (d i : Int)) ∧ (∀ i, d i ≤ 9) ∧ Grd T m 0 6 s d := by
  obtain ⟨c, hc9, hc⟩ := best_all T hT m 6 0 rfl
  rw [rk_rS]
  rcases hc s with h | ⟨v, h1, h2, h3, h4⟩
  · exact Or.inl h
  · right
    exact ⟨_, c s, h3, by rw [rw_cod (hc9 s)]; exact h1, fun i hi => rc_cod (hc9 s) hi, hc9 s, h4⟩
theorem vS_some (T : Tn) (hT : Tok T) (m s : Nat) : (vS T m 0 s).isSome = (rk T m s).isSome := by
  rcases best_of T hT m s with ⟨h1, h2⟩ | ⟨r, d, h1, h2, -⟩
  · rw [h1, h2]
  · rw [h1, h2]; rfl
theorem em_vS {T : Tn} (hT : Tok T) {m s : Nat} : em (vS T m 0 s) = (match rk T m s with | none => iI (-6) | some r => iI (rw_ r)) := by
  rcases best_of T hT m s with ⟨h1, h2⟩ | ⟨r, d, h1, h2, -⟩
  · rw [h1, h2]; rfl
  · rw [h1, h2]; rfl
theorem rw_ge {T : Tn} (hT : Tok T) {m s : Nat} {r : Int} (h : rk T m s = some r) : 0 ≤ rw_ r ∧ rw_ r ≤ 10000 := by
  rcases best_of T hT m s with ⟨h1, h2⟩ | ⟨r', d, h1, h2, -⟩
  · rw [h] at h2; cases h2
  · rw [h] at h1; cases h1
    exact vS_B T hT m 0 (by omega) _ _ h2
theorem sp_X7_comesOut {T : Tn} (hT : Tok T) {m : Nat} {best : Nat → Int32} (hb : ∀ s, s < 1000 → best s = em (vS T m 0 s)) {x : Int32} {Q : Int32 → Prop} (hQ : Q (bz ((0 ≤ x.toInt ∧ x.toInt ≤ 999) ∧ (rk T m x.toInt.toNat).isSome = true))) : wp_X7_comesOut x best Q := by
  unfold wp_X7_comesOut
  refine sp_X7_isSum (bz_e (fun h => ?_) (fun h => ⟨vp_in_iff.mpr ⟨h.1, by omega⟩, ?_⟩))
  · rw [bz_f (fun q => h q.1)] at hQ; exact hQ
  · rw [show best (Int32.toNatClampNeg x) = em (vS T m 0 x.toInt.toNat) from hb x.toInt.toNat (by omega), em_vS hT]
    cases hk : rk T m x.toInt.toNat with
    | none =>
      rw [hk] at hQ
      refine br_lt (-6) 0 (tI (z := -6) (by omega)) rfl (fun _ => ?_) (fun h => absurd h (by omega))
      rw [bz_f (fun q => by cases q.2)] at hQ; exact hQ
    | some r =>
      rw [hk] at hQ
      have hr := rw_ge hT hk
      refine br_lt (rw_ r) 0 (tI (by omega)) rfl (fun h => absurd h (by omega)) (fun _ => ?_)
      rw [bz_t ⟨h, rfl⟩] at hQ; exact hQ
theorem sp_X7_comesOut_n {T : Tn} (hT : Tok T) {m : Nat} {best : Nat → Int32} (hb : ∀ s, s < 1000 → best s = em (vS T m 0 s)) {s : Nat} (hs : s < 1000) {Q : Int32 → Prop} (hQ : Q (bz ((rk T m s).isSome = true))) : wp_X7_comesOut (iI (s : Int)) best Q := by
  refine sp_X7_comesOut hT hb ?_
  have e : (iI (s : Int)).toInt = s := tN (by omega)
  by_cases h : (rk T m s).isSome = true
  · rw [bz_t h] at hQ
    rw [bz_t ⟨by omega, by rw [e]; exact h⟩]
    exact hQ
  · rw [bz_f h] at hQ
    rw [bz_f (fun q => h (by have := q.2; rw [e] at this; exact this))]
    exact hQ
/-- the inner search: from count j on, the least that goes on is found -/
theorem lo_X7_layBest_13 {T : Tn} {less price worth best many : Nat → Int32} (hT : Tok T) (hp : aN price (tP T) 6) (hw : aN worth (tW T) 6) (hl : aN less (tL T) 6) {m t s k0 : Nat} (ht : t < 6) (hs : s < 1000) (hk9 : k0 ≤ 9) (hb0 : MB T m t best many) (hb1 : MB T m (t + 1) best many) {v : Int} (hv : vS T m t s = some v) (hF : Fst (vS T m (t + 1)) (tP T t) (fun k => (wN (tW T t) (tL T t) k : Int)) (nS T m t) s k0 v) {K : Int32 → Prop} (hK : K (iI (k0 : Int))) :
    ∀ r j, j + r = k0 → wl_X7_layBest_13 (iI (s : Int)) (iI (t : Int)) best less price worth K (r + 1) (iI (j : Int)) := by
  have hb := hT.1 t ht
  obtain ⟨-, hkP, ⟨x, hx, hxv⟩, hlt⟩ := hF
  have hvb := vS_B T hT m t (by omega) _ _ hv
  have body : ∀ (j : Nat) (R K : Int32 → Prop), j ≤ k0 → (j = k0 → K (iI (j : Int))) → (j < k0 → R (iI ((j + 1 : Nat) : Int))) → wb_X7_layBest_13 (iI (s : Int)) (iI (t : Int)) (iI (j : Int)) best less price worth R K := by
    intro j R K hj hyes hno
    have hjP : j * tP T t ≤ s := Nat.le_trans (Nat.mul_le_mul_right _ hj) hkP
    unfold wb_X7_layBest_13 wp_X7_goesOn
    refine ⟨iI_in (by omega) (by omega) (by omega), ?_⟩
    rw [iI_clN (by omega), hp t ht, iI_mul, ← Int.natCast_mul, iI_sub]
    refine nm_r (e' := iI ((s - j * tP T t : Nat) : Int)) (by congr 1; omega) ?_
    have ea : (((1000 : Int32) * (iI (t : Int) + (1 : Int32))) + iI ((s - j * tP T t : Nat) : Int)) = iI ((1000 * (t + 1) + (s - j * tP T t) : Nat) : Int) := by
      rw [show iI (t : Int) + (1 : Int32) = iI ((t : Int) + 1) from iI_add _ 1, show (1000 : Int32) * iI ((t : Int) + 1) = iI (1000 * ((t : Int) + 1)) from iI_mul 1000 _, iI_add]
      congr 1 <;> omega
    have eb : ((1000 : Int32) * iI (t : Int)) + iI (s : Int) = iI ((1000 * t + s : Nat) : Int) := by
      rw [show (1000 : Int32) * iI (t : Int) = iI (1000 * (t : Int)) from iI_mul 1000 _, iI_add]
      congr 1 <;> omega
    rw [ea, eb, iI_clN (by omega), iI_clN (by omega), (hb1 (s - j * tP T t) (by omega)).1, (hb0 s hs).1, hv]
    refine ⟨iI_in (by omega) (by omega) (by omega), nm_r rfl ?_⟩
    have e3 : iI (j : Int) + 1 = iI ((j + 1 : Nat) : Int) := iI_add _ 1
    cases hq : vS T m (t + 1) (s - j * tP T t) with
    | none =>
      have hne : j ≠ k0 := by
        intro q; subst q; rw [hq] at hx; cases hx
      refine br_lt (-6) 0 (tI (z := -6) (by omega)) rfl (fun _ => ?_) (fun h => absurd h (by omega))
      exact ⟨fun q => absurd rfl q, fun _ => nm_r e3 (hno (by omega))⟩
    | some y =>
      have hy := vS_B T hT m (t + 1) (by omega) _ _ hq
      have hwb := wN_b T hT ht (k := j) (by omega)
      refine br_lt y 0 (tI (z := y) (by omega)) rfl (fun h => absurd h (by omega)) (fun _ => ?_)
      refine sp_X7_worthOf hT hw hl ht (by omega) ⟨iI_in (by omega) (by omega) (by omega), ?_⟩
      have ec : em (some y) + iI (wN (tW T t) (tL T t) j : Int) = iI (y + (wN (tW T t) (tL T t) j : Int)) := iI_add _ _
      rw [ec]
      refine br_ne (y + (wN (tW T t) (tL T t) j : Int)) v (tI (by omega)) (tI (z := v) (by omega)) (fun h => ?_) (fun h => ?_)
      · have hne : j ≠ k0 := by
          intro q; subst q; rw [hq] at hx; cases hx; exact h hxv
        exact ⟨fun q => absurd rfl q, fun _ => nm_r e3 (hno (by omega))⟩
      · have heq : j = k0 := by
          rcases Nat.lt_or_ge j k0 with q | q
          · have h9 : y + (wN (tW T t) (tL T t) j : Int) < v := hlt j q hjP y hq
            omega
          · omega
        exact ⟨fun _ => hyes heq, fun q => absurd (by decide) q⟩
  intro r
  induction r with
  | zero =>
    intro j hj
    exact body j _ K (by omega) (fun h => by rw [h]; exact hK) (fun h => absurd h (by omega))
  | succ r ih =>
    intro j hj
    exact body j _ K (by omega) (fun h => absurd h (by omega)) (fun _ => ih (j + 1) (by omega))
theorem lo_X7_layBest_4 {T : Tn} {less price worth best many : Nat → Int32} (hT : Tok T) (hp : aN price (tP T) 6) (hw : aN worth (tW T) 6) (hl : aN less (tL T) 6) {m : Nat} (hB : ∀ t, t ≤ 6 → MB T m t best many) {d : Nat → Nat} (hd : ∀ i, d i ≤ 9) {K : (Nat → Int32) → Prop} (hK : ∀ lies : Nat → Int32, (∀ i, i < 6 → lies i = iI (d i : Int)) → K lies) :
    ∀ r t, t + r = 6 → ∀ s, s < 1000 → Grd T m t r s d → ∀ lies : Nat → Int32, (∀ i, i < t → lies i = iI (d i : Int)) → wl_X7_layBest_4 best less price worth K (r + 1) (iI (s : Int)) (iI (t : Int)) lies := by
  intro r
  induction r with
  | zero =>
    intro t ht s hs _ lies h1
    show wb_X7_layBest_4 _ _ _ _ _ _ _ _ _
    unfold wb_X7_layBest_4
    exact br_le 6 (t : Int) rfl (tN (by omega)) (fun _ => hK lies (fun i hi => h1 i (by omega))) (fun h => absurd h (by omega))
  | succ r ih =>
    intro t ht s hs hg lies h1
    have ht6 : t < 6 := by omega
    show wb_X7_layBest_4 _ _ _ _ _ _ _ _ _
    unfold wb_X7_layBest_4
    refine br_le 6 (t : Int) rfl (tN (by omega)) (fun h => absurd h (by omega)) (fun _ => ⟨d t + 1, ?_⟩)
    simp only [Grd] at hg
    obtain ⟨⟨v, hv, hF⟩, hg2⟩ := hg
    refine lo_X7_layBest_13 hT hp hw hl ht6 hs (hd t) (hB t (by omega)) (hB (t + 1) (by omega)) hv hF (K := fun k => wx_X7_layBest_13 (iI (s : Int)) (iI (t : Int)) k lies price _) ?_ (d t) 0 (by omega)
    show wx_X7_layBest_13 _ _ _ _ _ _
    unfold wx_X7_layBest_13
    have hin : vp_in (iI (t : Int)) 6 := iI_in (by omega) (by omega) (by omega)
    have hdP : d t * tP T t ≤ s := hF.2.1
    refine ⟨hin, nm_r rfl ⟨hin, nm_r (e' := iI ((s - d t * tP T t : Nat) : Int)) ?_ (nm_r (e' := iI ((t + 1 : Nat) : Int)) (iI_add _ 1) (ih (t + 1) (by omega) _ (by omega) hg2 _ ?_))⟩⟩
    · rw [iI_clN (by omega), hp t ht6, iI_mul, ← Int.natCast_mul, iI_sub]
      congr 1; omega
    · intro i hi
      rw [iI_clN (by omega)]
      unfold upd
      by_cases h : i = t
      · rw [if_pos h, h]
      · rw [if_neg h]; exact h1 i (by omega)
theorem sp_X7_layBest {T : Tn} {less price worth best many lies : Nat → Int32} (hT : Tok T) (hp : aN price (tP T) 6) (hw : aN worth (tW T) 6) (hl : aN less (tL T) 6) {m : Nat} (hB : ∀ t, t ≤ 6 → MB T m t best many) {s : Nat} (hs : s < 1000) {r : Int} (hr : rk T m s = some r) {Q : (Nat → Int32) → Prop} (hQ : ∀ lies : Nat → Int32, (∀ i, i < 6 → lies i = iI (rc_ r i)) → Q lies) : wp_X7_layBest (iI (s : Int)) best less lies price worth Q := by
  rcases best_of T hT m s with ⟨-, h2⟩ | ⟨r', d, h1, h2, h3, h4, h5⟩
  · rw [hr] at h2; cases h2
  · rw [hr] at h1; cases h1
    refine ⟨7, lo_X7_layBest_4 hT hp hw hl hB h4 (K := fun k => wx_X7_layBest_4 k Q) (fun lies hl => hQ lies (fun i hi => by rw [h3 i hi]; exact hl i hi)) 6 0 (by omega) s hs h5 lies (fun i hi => absurd hi (by omega))⟩
