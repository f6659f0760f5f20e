/-! purse, seen, forget, say, wipe, told -/
def Tpu (T : Tn) (p : Nat) (z : Int) : Tn := (tP T, tS T, tW T, tL T, upN (tQ T) p z, sT T, sC T, sH T, sN T)
def Tse (T : Tn) (t n h : Nat) : Tn := (tP T, tS T, tW T, tL T, tQ T, upN (sT T) (sN T) t, upN (sC T) (sN T) n, upN (sH T) (sN T) h, sN T + 1)
def Tfo (T : Tn) : Tn := (tP T, tS T, tW T, tL T, tQ T, sT T, sC T, sH T, 0)
def a_purse (p z : Int) : Int := if 0 ≤ p ∧ p ≤ 3 then (if -1 ≤ z ∧ z ≤ 999 then 1 else -2) else -1
def n_purse (T : Tn) (p z : Int) : Tn := if (0 ≤ p ∧ p ≤ 3) ∧ -1 ≤ z ∧ z ≤ 999 then Tpu T p.toNat z else T
theorem Tpu_ok {T : Tn} (hT : Tok T) {p : Nat} {z : Int} (hz : -1 ≤ z ∧ z ≤ 999) : Tok (Tpu T p z) := by
  refine ⟨hT.1, fun j hj => ?_, hT.2.2.1, hT.2.2.2⟩
  show -1 ≤ upN (tQ T) p z j ∧ upN (tQ T) p z j ≤ 999
  unfold upN
  by_cases e : j = p
  · simp only [if_pos e]; exact hz
  · simp only [if_neg e]; exact hT.2.1 j hj
theorem pN_up {T : Tn} {purse : Nat → Int32} (h : pN purse T) {x y : Int32} : pN (upd purse (Int32.toNatClampNeg x) y) (Tpu T x.toInt.toNat y.toInt) := by
  intro j hj
  show upd purse x.toInt.toNat y j = iI (upN (tQ T) x.toInt.toNat y.toInt j)
  unfold upd upN
  by_cases e : j = x.toInt.toNat
  · rw [if_pos e, if_pos e]; exact iI_of y
  · rw [if_neg e, if_neg e]; exact h j hj
theorem sp_X6_purse {T : Tn} {purse : Nat → Int32} (hT : Tok T) (hp : pN purse T) {x y : Int32} {Q : Int32 → (Nat → Int32) → Prop} (hQ : ∀ purse, Tok (n_purse T x.toInt y.toInt) → pN purse (n_purse T x.toInt y.toInt) → Q (iI (a_purse x.toInt y.toInt)) purse) : wp_X6_purse x y purse Q := by
  unfold wp_X6_purse
  unfold a_purse n_purse at hQ
  refine sp_X6_within (bz_n (fun hx => sp_X6_within (bz_n (fun hy => ?_) (fun hy => ?_))) (fun hx => ?_))
  · have hx : 0 ≤ x.toInt ∧ x.toInt ≤ 3 := hx
    have hy : -1 ≤ y.toInt ∧ y.toInt ≤ 999 := hy
    rw [if_pos ⟨hx, hy⟩, if_pos hx, if_pos hy] at hQ
    exact ⟨vp_in_iff.mpr ⟨hx.1, by omega⟩, nm_r rfl (hQ _ (Tpu_ok hT hy) (pN_up hp))⟩
  · have hx : 0 ≤ x.toInt ∧ x.toInt ≤ 3 := hx
    have hy : ¬ (-1 ≤ y.toInt ∧ y.toInt ≤ 999) := hy
    rw [if_neg (fun q => hy q.2), if_pos hx, if_neg hy] at hQ
    exact hQ _ hT hp
  · have hx : ¬ (0 ≤ x.toInt ∧ x.toInt ≤ 3) := hx
    rw [if_neg (fun q => hx q.1), if_neg hx] at hQ
    exact hQ _ hT hp
theorem sp_X7_purse {T : Tn} {purse : Nat → Int32} (hT : Tok T) (hp : pN purse T) {x y : Int32} {Q : Int32 → (Nat → Int32) → Prop} (hQ : ∀ purse, Tok (n_purse T x.toInt y.toInt) → pN purse (n_purse T x.toInt y.toInt) → Q (iI (a_purse x.toInt y.toInt)) purse) : wp_X7_purse x y purse Q := by
  unfold wp_X7_purse
  unfold a_purse n_purse at hQ
  refine sp_X7_isPurse (bz_n (fun hx => sp_X7_in (bz_n (fun hy => ?_) (fun hy => ?_))) (fun hx => ?_))
  · have hy : -1 ≤ y.toInt ∧ y.toInt ≤ 999 := hy
    rw [if_pos ⟨hx, hy⟩, if_pos hx, if_pos hy] at hQ
    exact ⟨vp_in_iff.mpr ⟨hx.1, by omega⟩, nm_r rfl (hQ _ (Tpu_ok hT hy) (pN_up hp))⟩
  · have hy : ¬ (-1 ≤ y.toInt ∧ y.toInt ≤ 999) := hy
    rw [if_neg (fun q => hy q.2), if_pos hx, if_neg hy] at hQ
    exact hQ _ hT hp
  · rw [if_neg (fun q => hx q.1), if_neg hx] at hQ
    exact hQ _ hT hp
def a_seen (T : Tn) (a n h : Int) : Int := if 0 ≤ a ∧ a ≤ 5 then (if (0 ≤ n ∧ n ≤ 9) ∧ 0 ≤ h ∧ h ≤ 1 then (if sN T < 6 then (sN T : Int) + 1 else -4) else -2) else -1
def n_seen (T : Tn) (a n h : Int) : Tn := if (0 ≤ a ∧ a ≤ 5) ∧ ((0 ≤ n ∧ n ≤ 9) ∧ 0 ≤ h ∧ h ≤ 1) ∧ sN T < 6 then Tse T a.toNat n.toNat h.toNat else T
theorem Tse_ok {T : Tn} (hT : Tok T) {t n h : Nat} (ht : t ≤ 5) (hn : n ≤ 9) (hh : h ≤ 1) (h6 : sN T < 6) : Tok (Tse T t n h) := by
  refine ⟨hT.1, hT.2.1, fun k hk => ?_, ?_⟩
  · show upN (sT T) (sN T) t k ≤ 5 ∧ upN (sC T) (sN T) n k ≤ 9 ∧ upN (sH T) (sN T) h k ≤ 1
    unfold upN
    by_cases e : k = sN T
    · simp only [if_pos e]; exact ⟨ht, hn, hh⟩
    · simp only [if_neg e]; exact hT.2.2.1 k hk
  · show sN T + 1 ≤ 6
    omega
theorem Tse_SG {T : Tn} {cnt how thg : Nat → Int32} {n x y z : Int32} (hg : SG T cnt how thg n) (hT : Tok T) (hx : 0 ≤ x.toInt) (hy : 0 ≤ y.toInt) (hz : 0 ≤ z.toInt) : SG (Tse T x.toInt.toNat y.toInt.toNat z.toInt.toNat) (upd cnt (Int32.toNatClampNeg (iI (sN T : Int))) y) (upd how (Int32.toNatClampNeg (iI (sN T : Int))) z) (upd thg (Int32.toNatClampNeg (iI (sN T : Int))) x) (iI (sN T : Int) + 1) := by
  have h6 := hT.2.2.2
  rw [iI_clN (by omega)]
  exact ⟨aN_up hg.1 (nat_of hy), aN_up hg.2.1 (nat_of hz), aN_up hg.2.2.1 (nat_of hx), iI_add _ 1⟩
theorem sp_X6_seen {T : Tn} {cnt how thg : Nat → Int32} {n : Int32} (hT : Tok T) (hg : SG T cnt how thg n) {x y z : Int32} {Q : Int32 → (Nat → Int32) → (Nat → Int32) → (Nat → Int32) → Int32 → Prop} (hQ : ∀ cnt how thg n, Tok (n_seen T x.toInt y.toInt z.toInt) → SG (n_seen T x.toInt y.toInt z.toInt) cnt how thg n → Q (iI (a_seen T x.toInt y.toInt z.toInt)) cnt how thg n) : wp_X6_seen x y z cnt how thg n Q := by
  unfold wp_X6_seen
  unfold a_seen n_seen at hQ
  have h6 := hT.2.2.2
  refine sp_X6_isThing (bz_n (fun hx => sp_X6_within (bz_e (fun hy => ?_) (fun hy => sp_X6_within (bz_n (fun hz => ?_) (fun hz => ?_))))) (fun hx => ?_))
  · have hy : ¬ (0 ≤ y.toInt ∧ y.toInt ≤ 9) := hy
    rw [if_neg (fun q => hy q.2.1.1), if_pos hx, if_neg (fun q => hy q.1)] at hQ
    exact hQ _ _ _ _ hT hg
  · have hy : 0 ≤ y.toInt ∧ y.toInt ≤ 9 := hy
    have hz : 0 ≤ z.toInt ∧ z.toInt ≤ 1 := hz
    unfold wp_X5_addSight
    rw [hg.2.2.2]
    refine br_lt (sN T : Int) 6 (tN (by omega)) rfl (fun h => ?_) (fun h => ?_)
    · have h : sN T < 6 := by omega
      rw [if_pos ⟨hx, ⟨hy, hz⟩, h⟩, if_pos hx, if_pos ⟨hy, hz⟩, if_pos h] at hQ
      have hin : vp_in (iI (sN T : Int)) 6 := iI_in (by omega) (by omega) (by omega)
      refine ⟨hin, nm_r rfl ⟨hin, nm_r rfl ⟨hin, nm_r rfl (nm_r rfl ⟨fun q => absurd q (by decide), fun _ => ?_⟩)⟩⟩⟩
      have := hQ _ _ _ _ (Tse_ok hT (by omega) (by omega) (by omega) h) (Tse_SG hg hT hx.1 hy.1 hz.1)
      have e : iI (sN T : Int) + 1 = iI ((sN T : Int) + 1) := iI_add _ 1
      rw [← e] at this
      exact this
    · have h : ¬ sN T < 6 := by omega
      rw [if_neg (fun q => h q.2.2), if_pos hx, if_pos ⟨hy, hz⟩, if_neg h] at hQ
      exact ⟨fun _ => hQ _ _ _ _ hT ⟨hg.1, hg.2.1, hg.2.2.1, rfl⟩, fun q => absurd rfl q⟩
  · have hz : ¬ (0 ≤ z.toInt ∧ z.toInt ≤ 1) := hz
    rw [if_neg (fun q => hz q.2.1.2), if_pos hx, if_neg (fun q => hz q.2)] at hQ
    exact hQ _ _ _ _ hT hg
  · rw [if_neg (fun q => hx q.1), if_neg hx] at hQ
    exact hQ _ _ _ _ hT hg
theorem sp_X7_seen {T : Tn} {cnt how thg : Nat → Int32} {n : Int32} (hT : Tok T) (hg : SG T cnt how thg n) {x y z : Int32} {Q : Int32 → (Nat → Int32) → (Nat → Int32) → (Nat → Int32) → Int32 → Prop} (hQ : ∀ cnt how thg n, Tok (n_seen T x.toInt y.toInt z.toInt) → SG (n_seen T x.toInt y.toInt z.toInt) cnt how thg n → Q (iI (a_seen T x.toInt y.toInt z.toInt)) how cnt thg n) : wp_X7_seen x y z how cnt thg n Q := by
  unfold wp_X7_seen
  unfold a_seen n_seen at hQ
  have h6 := hT.2.2.2
  refine sp_X7_isThing (bz_n (fun hx => sp_X7_in (bz_e (fun hy => ?_) (fun hy => sp_X7_in (bz_n (fun hz => ?_) (fun hz => ?_))))) (fun hx => ?_))
  · have hy : ¬ (0 ≤ y.toInt ∧ y.toInt ≤ 9) := hy
    rw [if_neg (fun q => hy q.2.1.1), if_pos hx, if_neg (fun q => hy q.1)] at hQ
    exact hQ _ _ _ _ hT hg
  · have hy : 0 ≤ y.toInt ∧ y.toInt ≤ 9 := hy
    have hz : 0 ≤ z.toInt ∧ z.toInt ≤ 1 := hz
    rw [hg.2.2.2]
    refine br_ne (sN T : Int) 6 (tN (by omega)) rfl (fun h => ?_) (fun h => ?_)
    · have h : sN T < 6 := by omega
      rw [if_pos ⟨hx, ⟨hy, hz⟩, h⟩, if_pos hx, if_pos ⟨hy, hz⟩, if_pos h] at hQ
      have hin : vp_in (iI (sN T : Int)) 6 := iI_in (by omega) (by omega) (by omega)
      refine ⟨hin, nm_r rfl ⟨hin, nm_r rfl ⟨hin, nm_r rfl (nm_r rfl ?_)⟩⟩⟩
      have := hQ _ _ _ _ (Tse_ok hT (by omega) (by omega) (by omega) h) (Tse_SG hg hT hx.1 hy.1 hz.1)
      have e : iI (sN T : Int) + 1 = iI ((sN T : Int) + 1) := iI_add _ 1
      rw [← e] at this
      exact this
    · have h : ¬ sN T < 6 := by omega
      rw [if_neg (fun q => h q.2.2), if_pos hx, if_pos ⟨hy, hz⟩, if_neg h] at hQ
      exact hQ _ _ _ _ hT ⟨hg.1, hg.2.1, hg.2.2.1, rfl⟩
  · have hz : ¬ (0 ≤ z.toInt ∧ z.toInt ≤ 1) := hz
    rw [if_neg (fun q => hz q.2.1.2), if_pos hx, if_neg (fun q => hz q.2)] at hQ
    exact hQ _ _ _ _ hT hg
  · rw [if_neg (fun q => hx q.1), if_neg hx] at hQ
    exact hQ _ _ _ _ hT hg
theorem Tfo_ok {T : Tn} (hT : Tok T) : Tok (Tfo T) := ⟨hT.1, hT.2.1, hT.2.2.1, Nat.zero_le _⟩
theorem Tfo_SG {T : Tn} {cnt how thg : Nat → Int32} {n : Int32} (hg : SG T cnt how thg n) : SG (Tfo T) cnt how thg 0 := ⟨hg.1, hg.2.1, hg.2.2.1, rfl⟩
/-- the pad: how many signs; the signs -/
abbrev Pd : Type := Nat × (Nat → Int)
def PDx (p : Pd) (len : Int32) (sg : Nat → Int32) : Prop := len = iI (p.1 : Int) ∧ p.1 ≤ 40 ∧ ∀ j, j < p.1 → sg j = iI (p.2 j) ∧ 33 ≤ p.2 j ∧ p.2 j ≤ 126
def a_say (p : Pd) (z : Int) : Int := if 33 ≤ z ∧ z ≤ 126 then (if p.1 < 40 then (p.1 : Int) + 1 else -4) else -2
def n_say (p : Pd) (z : Int) : Pd := if (33 ≤ z ∧ z ≤ 126) ∧ p.1 < 40 then (p.1 + 1, upN p.2 p.1 z) else p
theorem PD_say {p : Pd} {len x : Int32} {sg : Nat → Int32} (h : PDx p len sg) (hx : 33 ≤ x.toInt ∧ x.toInt ≤ 126) (h4 : p.1 < 40) : PDx (p.1 + 1, upN p.2 p.1 x.toInt) (iI (p.1 : Int) + 1) (upd sg (Int32.toNatClampNeg (iI (p.1 : Int))) x) := by
  refine ⟨iI_add _ 1, h4, fun j hj => ?_⟩
  have hj : j < p.1 + 1 := hj
  rw [iI_clN (by omega)]
  show upd sg p.1 x j = iI (upN p.2 p.1 x.toInt j) ∧ 33 ≤ upN p.2 p.1 x.toInt j ∧ upN p.2 p.1 x.toInt j ≤ 126
  unfold upd upN
  by_cases e : j = p.1
  · simp only [if_pos e]; exact ⟨iI_of x, hx⟩
  · simp only [if_neg e]; exact h.2.2 j (by omega)
theorem sp_X6_say {p : Pd} {len x : Int32} {sg : Nat → Int32} (h : PDx p len sg) {Q : Int32 → Int32 → (Nat → Int32) → Prop} (hQ : ∀ len sg, PDx (n_say p x.toInt) len sg → Q (iI (a_say p x.toInt)) len sg) : wp_X6_say x len sg Q := by
  unfold wp_X6_say wp_X1_add
  unfold a_say n_say at hQ
  have h40 := h.2.1
  refine sp_X6_within (bz_n (fun hx => ?_) (fun hx => ?_))
  · have hx : 33 ≤ x.toInt ∧ x.toInt ≤ 126 := hx
    rw [h.1]
    refine br_lt (p.1 : Int) 40 (tN (by omega)) rfl (fun g => ?_) (fun g => ?_)
    · have g : p.1 < 40 := by omega
      rw [if_pos ⟨hx, g⟩, if_pos hx, if_pos g] at hQ
      refine ⟨iI_in (by omega) (by omega) (by omega), nm_r rfl (nm_r rfl ⟨fun q => absurd q (by decide), fun _ => ?_⟩)⟩
      have := hQ _ _ (PD_say h hx g)
      have e : iI (p.1 : Int) + 1 = iI ((p.1 : Int) + 1) := iI_add _ 1
      rw [← e] at this
      exact this
    · have g : ¬ p.1 < 40 := by omega
      rw [if_neg (fun q => g q.2), if_pos hx, if_neg g] at hQ
      exact ⟨fun _ => hQ _ _ ⟨rfl, h.2⟩, fun q => absurd rfl q⟩
  · have hx : ¬ (33 ≤ x.toInt ∧ x.toInt ≤ 126) := hx
    rw [if_neg (fun q => hx q.1), if_neg hx] at hQ
    exact hQ _ _ h
theorem sp_X7_say {p : Pd} {len x : Int32} {sg : Nat → Int32} (h : PDx p len sg) {Q : Int32 → (Nat → Int32) → Int32 → Prop} (hQ : ∀ len sg, PDx (n_say p x.toInt) len sg → Q (iI (a_say p x.toInt)) sg len) : wp_X7_say x sg len Q := by
  unfold wp_X7_say
  unfold a_say n_say at hQ
  have h40 := h.2.1
  refine sp_X7_in (bz_n (fun hx => ?_) (fun hx => ?_))
  · have hx : 33 ≤ x.toInt ∧ x.toInt ≤ 126 := hx
    rw [h.1]
    refine br_ne (p.1 : Int) 40 (tN (by omega)) rfl (fun g => ?_) (fun g => ?_)
    · have g : p.1 < 40 := by omega
      rw [if_pos ⟨hx, g⟩, if_pos hx, if_pos g] at hQ
      refine ⟨iI_in (by omega) (by omega) (by omega), nm_r rfl (nm_r rfl ?_)⟩
      have := hQ _ _ (PD_say h hx g)
      have e : iI (p.1 : Int) + 1 = iI ((p.1 : Int) + 1) := iI_add _ 1
      rw [← e] at this
      exact this
    · have g : ¬ p.1 < 40 := by omega
      rw [if_neg (fun q => g q.2), if_pos hx, if_neg g] at hQ
      exact hQ _ _ ⟨rfl, h.2⟩
  · have hx : ¬ (33 ≤ x.toInt ∧ x.toInt ≤ 126) := hx
    rw [if_neg (fun q => hx q.1), if_neg hx] at hQ
    exact hQ _ _ h
def n_wipe (p : Pd) : Pd := (0, p.2)
theorem PD_wipe {p : Pd} {len : Int32} {sg : Nat → Int32} (_ : PDx p len sg) : PDx (n_wipe p) 0 sg := ⟨rfl, Nat.zero_le _, fun j hj => absurd hj (Nat.not_lt_zero j)⟩
/-! told -/
def a_told (T : Tn) (p : Pd) (z : Int) : Int :=
  if z = 0 then (p.1 : Int) else if z = 1 then (sN T : Int) else if 2 ≤ z ∧ z ≤ 5 then tQ T (z - 2).toNat else
  if (10 ≤ z ∧ z ≤ 63) ∧ z % 10 ≤ 3 then (if z % 10 = 0 then (tP T (z / 10 - 1).toNat : Int) else if z % 10 = 1 then (tS T (z / 10 - 1).toNat : Int) else if z % 10 = 2 then (tW T (z / 10 - 1).toNat : Int) else (tL T (z / 10 - 1).toNat : Int)) else -2
theorem td_rem {x : Int32} (h : 0 ≤ x.toInt) : x - x / (10 : Int32) * (10 : Int32) = iI (x.toInt % 10) := by
  have hlt : x.toInt < 2147483648 := Int32.toInt_lt x
  rw [nat_of h]
  refine (iI_rem (d := 10) (by omega) (by omega) (by omega)).trans ?_
  rw [← nat_of h]
  congr 1; omega
theorem td_div {x : Int32} (h : 0 ≤ x.toInt) : x / (10 : Int32) - (1 : Int32) = iI (x.toInt / 10 - 1) := by
  have hlt : x.toInt < 2147483648 := Int32.toInt_lt x
  have e : x / (10 : Int32) = iI (x.toInt / 10) := by
    have e9 : nI x.toInt.toNat / nI 10 = nI (x.toInt.toNat / 10) := pk_div (by omega) (by omega) (by omega)
    have e8 : nI x.toInt.toNat = x := (iI_nI _).trans (nat_of h).symm
    rw [e8] at e9
    refine e9.trans ?_
    rw [iI_nI]
    congr 1; omega
  rw [e]
  exact iI_sub _ 1
theorem sp_X5_tell {T : Tn} {less price stock worth : Nat → Int32} (h : TX T less price stock worth) {t c : Int} (ht : 0 ≤ t ∧ t ≤ 5) (hc : 0 ≤ c ∧ c ≤ 3) {Q : Int32 → Prop} (hQ : Q (iI (if c = 0 then (tP T t.toNat : Int) else if c = 1 then (tS T t.toNat : Int) else if c = 2 then (tW T t.toNat : Int) else (tL T t.toNat : Int)))) : (((¬ iI c = 0 → (((¬ iI c = 1 → (((¬ iI c = 2 → (vp_in (iI t) 6 ∧ (Q (less (Int32.toNatClampNeg (iI t))) ))) ∧ (¬ (¬ iI c = 2) → (vp_in (iI t) 6 ∧ (Q (worth (Int32.toNatClampNeg (iI t))) )))))) ∧ (¬ (¬ iI c = 1) → (vp_in (iI t) 6 ∧ (Q (stock (Int32.toNatClampNeg (iI t))) )))))) ∧ (¬ (¬ iI c = 0) → (vp_in (iI t) 6 ∧ (Q (price (Int32.toNatClampNeg (iI t))) ))))) := by
  have hin : vp_in (iI t) 6 := iI_in ht.1 (by omega) (by omega)
  rw [iI_cl (by omega) (by omega), h.2.1 t.toNat (by omega), h.2.2.1 t.toNat (by omega), h.2.2.2.1 t.toNat (by omega), h.2.2.2.2 t.toNat (by omega)]
  refine br_ne c 0 (tI (by omega)) rfl (fun g => br_ne c 1 (tI (by omega)) rfl (fun g1 => br_ne c 2 (tI (by omega)) rfl (fun g2 => ⟨hin, ?_⟩) (fun g2 => ⟨hin, ?_⟩)) (fun g1 => ⟨hin, ?_⟩)) (fun g => ⟨hin, ?_⟩)
  · rw [if_neg g, if_neg g1, if_neg g2] at hQ; exact hQ
  · rw [if_neg g, if_neg g1, if_pos g2] at hQ; exact hQ
  · rw [if_neg g, if_pos g1] at hQ; exact hQ
  · rw [if_pos g] at hQ; exact hQ
theorem sp_X6_told {T : Tn} {p : Pd} {less price stock worth purse sg : Nat → Int32} {len n x : Int32} (h : TX T less price stock worth) (hp : pN purse T) (hn : n = iI (sN T : Int)) (hd : PDx p len sg) {Q : Int32 → Prop} (hQ : Q (iI (a_told T p x.toInt))) : wp_X6_told x len less price purse n stock worth Q := by
  unfold wp_X6_told
  unfold a_told at hQ
  refine br_ne x.toInt 0 rfl rfl (fun g0 => ?_) (fun g0 => ?_)
  · rw [if_neg g0] at hQ
    refine br_ne x.toInt 1 rfl rfl (fun g1 => ?_) (fun g1 => ?_)
    · rw [if_neg g1] at hQ
      refine sp_X6_within (bz_e (fun g2 => sp_X6_within (bz_e (fun g3 => ?_) (fun g3 => ?_))) (fun g2 => ?_))
      · have g2 : ¬ (2 ≤ x.toInt ∧ x.toInt ≤ 5) := g2
        have g3 : ¬ (10 ≤ x.toInt ∧ x.toInt ≤ 63) := g3
        rw [if_neg g2, if_neg (fun q => g3 q.1)] at hQ
        exact hQ
      · have g2 : ¬ (2 ≤ x.toInt ∧ x.toInt ≤ 5) := g2
        have g3 : 10 ≤ x.toInt ∧ x.toInt ≤ 63 := g3
        rw [if_neg g2] at hQ
        rw [td_rem (by omega), td_div (by omega)]
        refine br_le (x.toInt % 10) 3 (tI (by omega)) rfl (fun g4 => ?_) (fun g4 => ?_)
        · rw [if_pos ⟨g3, g4⟩] at hQ
          unfold wp_X5_tellThing
          exact sp_X5_tell h (by omega) (by omega) hQ
        · rw [if_neg (fun q => by omega)] at hQ
          exact hQ
      · have g2 : 2 ≤ x.toInt ∧ x.toInt ≤ 5 := g2
        rw [if_pos g2] at hQ
        have e : x - (2 : Int32) = iI (x.toInt - 2) := by rw [iI_of x, show (2 : Int32) = iI 2 from rfl, iI_sub, ← iI_of x]
        rw [e, iI_cl (by omega) (by omega), hp _ (by omega)]
        exact ⟨iI_in (by omega) (by omega) (by omega), hQ⟩
    · rw [if_pos g1] at hQ; rw [hn]; exact hQ
  · rw [if_pos g0] at hQ; rw [hd.1]; exact hQ
theorem sp_X7_told {T : Tn} {p : Pd} {less price stock worth purse sg : Nat → Int32} {len n x : Int32} (h : TX T less price stock worth) (hp : pN purse T) (hn : n = iI (sN T : Int)) (hd : PDx p len sg) {Q : Int32 → Prop} (hQ : Q (iI (a_told T p x.toInt))) : wp_X7_told x less len price purse n stock worth Q := by
  unfold wp_X7_told
  unfold a_told at hQ
  have low : ¬ (2 ≤ x.toInt ∧ x.toInt ≤ 5) → ¬ ((10 ≤ x.toInt ∧ x.toInt ≤ 63) ∧ x.toInt % 10 ≤ 3) → (((¬ x = 0 → (((¬ x = 1 → (Q (-2) )) ∧ (¬ (¬ x = 1) → (Q n ))))) ∧ (¬ (¬ x = 0) → (Q len )))) := by
    intro q1 q2
    refine br_ne x.toInt 0 rfl rfl (fun g0 => br_ne x.toInt 1 rfl rfl (fun g1 => ?_) (fun g1 => ?_)) (fun g0 => ?_)
    · rw [if_neg g0, if_neg g1, if_neg q1, if_neg q2] at hQ; exact hQ
    · rw [if_neg g0, if_pos g1] at hQ; rw [hn]; exact hQ
    · rw [if_pos g0] at hQ; rw [hd.1]; exact hQ
  refine sp_X7_in (bz_e (fun g2 => sp_X7_in (bz_e (fun g3 => ?_) (fun g3 => ?_))) (fun g2 => ?_))
  · have g2 : ¬ (2 ≤ x.toInt ∧ x.toInt ≤ 5) := g2
    have g3 : ¬ (10 ≤ x.toInt ∧ x.toInt ≤ 69) := g3
    exact low g2 (fun q => by omega)
  · have g2 : ¬ (2 ≤ x.toInt ∧ x.toInt ≤ 5) := g2
    have g3 : 10 ≤ x.toInt ∧ x.toInt ≤ 69 := g3
    rw [td_rem (by omega), td_div (by omega)]
    refine br_le 4 (x.toInt % 10) rfl (tI (by omega)) (fun g4 => low g2 (fun q => by omega)) (fun g4 => nm_r rfl (nm_r rfl ?_))
    rw [if_neg (by omega), if_neg (by omega), if_neg g2, if_pos (by omega)] at hQ
    exact sp_X5_tell h (by omega) (by omega) hQ
  · have g2 : 2 ≤ x.toInt ∧ x.toInt ≤ 5 := g2
    rw [if_neg (by omega), if_neg (by omega), if_pos g2] at hQ
    have e : x - (2 : Int32) = iI (x.toInt - 2) := by rw [iI_of x, show (2 : Int32) = iI 2 from rfl, iI_sub, ← iI_of x]
    rw [e, iI_cl (by omega) (by omega), hp _ (by omega)]
    exact ⟨iI_in (by omega) (by omega) (by omega), hQ⟩
