/-! penny -/
def lo_ (T : Tn) (s : Int) : Int := wO T s - wO T (s - 1)
def pst (T : Tn) (s : Int) (o : Option (Int × Int)) : Option (Int × Int) := if cO T s = true then (match o with | none => some (s, lo_ T s) | some (b, w) => if lo_ T s ≤ w then some (b, w) else some (s, lo_ T s)) else o
def pgf (T : Tn) : Nat → Int → Option (Int × Int) → Option (Int × Int)
  | 0, _, o => o
  | r + 1, s, o => pgf T r (s + 1) (pst T s o)
def p2 (o : Option (Int × Int)) (c : Int) : Int := match o with
  | none => -6
  | some (b, w) => if c = 0 then b else w + 10000
def a_penny (T : Tn) (a b c : Int) : Int := if (1 ≤ a ∧ a ≤ b ∧ b ≤ 999) ∧ 0 ≤ c ∧ c ≤ 1 then p2 (pgf T (b - a + 1).toNat a none) c else -2
def pok (o : Option (Int × Int)) : Prop := ∀ b w, o = some (b, w) → (0 ≤ b ∧ b ≤ 999) ∧ -10000 ≤ w ∧ w ≤ 10000
theorem pstep {T : Tn} (hT : Tok T) {s : Int} (h0 : 0 ≤ s ∧ s ≤ 999) {o : Option (Int × Int)} (ho : pok o) : pok (pst T s o) := by
  have hw := wO_b hT s
  have hw1 := wO_b hT (s - 1)
  have hl : -10000 ≤ lo_ T s ∧ lo_ T s ≤ 10000 := by unfold lo_; omega
  unfold pst
  by_cases hc : cO T s = true
  · rw [if_pos hc]
    cases o with
    | none => intro b w h; cases h; exact ⟨h0, hl⟩
    | some p =>
      obtain ⟨b0, w0⟩ := p
      intro b w h
      have h : (if lo_ T s ≤ w0 then some (b0, w0) else some (s, lo_ T s)) = some (b, w) := h
      by_cases g : lo_ T s ≤ w0
      · rw [if_pos g] at h; exact ho b w h
      · rw [if_neg g] at h; cases h; exact ⟨h0, hl⟩
  · rw [if_neg hc]; exact ho
theorem wO_no {T : Tn} {z : Int} (h : 0 ≤ z ∧ z ≤ 999) (hc : ¬ cO T z = true) : wO T z = 0 := by
  unfold wO
  cases hk : rk T 63 z.toNat with
  | none => rfl
  | some r => exact absurd ((cO_iff T z).mpr ⟨h, by rw [hk]; rfl⟩) hc
theorem sp_X6_penny {T : Tn} {less price stock worth : Nat → Int32} (h : TX T less price stock worth) {fw reach x y z : Int32} {gains ranks : Nat → Int64} (hs : SHx T fw ranks) {Q : Int32 → Int32 → (Nat → Int64) → (Nat → Int64) → Int32 → Prop} (hQ : ∀ fw gains ranks reach, SHx T fw ranks → Q (iI (a_penny T x.toInt y.toInt z.toInt)) fw gains ranks reach) : wp_X6_penny x y z fw gains ranks reach less price stock worth Q := by
  unfold wp_X6_penny
  unfold a_penny at hQ
  refine sp_X6_isSpan (bz_e (fun hx => ?_) (fun hx => br_lt x.toInt 1 rfl rfl (fun h1 => ?_) (fun h1 => sp_X6_within (bz_n (fun hz => ?_) (fun hz => ?_)))))
  · rw [if_neg (by omega)] at hQ; exact hQ _ _ _ _ hs
  · rw [if_neg (by omega)] at hQ; exact hQ _ _ _ _ hs
  · have hz : 0 ≤ z.toInt ∧ z.toInt ≤ 1 := hz
    rw [if_pos ⟨⟨h1, hx.2⟩, hz⟩] at hQ
    refine sp_X6_market h hs (fun gains ranks reach hr => ⟨(y.toInt - x.toInt + 1).toNat + 1, ?_⟩)
    have loop : ∀ (r : Nat) (s : Int) (o : Option (Int × Int)), s + (r : Int) = y.toInt + 1 → 1 ≤ s → pok o → (∀ fw gains ranks reach, SHx T fw ranks → Q (iI (p2 (pgf T r s o) z.toInt)) fw gains ranks reach) → wl_X6_penny_41 y ranks (fun a b => wx_X6_penny_41 z a b (iI 63) gains ranks reach Q) (r + 1) (iI (e1 o)) (iI (e2 0 o)) (iI s) := by
      intro r
      induction r with
      | zero =>
        intro s o hsr h0 ho hq
        show wb_X6_penny_41 _ _ _ _ _ _ _
        unfold wb_X6_penny_41
        refine br_lt y.toInt s rfl (tI (by omega)) (fun _ => ?_) (fun q => absurd q (by omega))
        show wx_X6_penny_41 _ _ _ _ _ _ _ _
        unfold wx_X6_penny_41
        rw [pgf] at hq
        cases o with
        | none => exact br_ne (-6) (-6) (tI (z := -6) (by omega)) rfl (fun q => absurd rfl q) (fun _ => hq _ _ _ _ (SH63 hr))
        | some p =>
          obtain ⟨b, w⟩ := p
          have hbw := ho b w rfl
          unfold p2 at hq
          refine br_ne b (-6) (tI (z := b) (by omega)) rfl (fun _ => br_ne z.toInt 0 rfl rfl (fun g => ?_) (fun g => ?_)) (fun q => absurd q (by omega))
          · rw [show (match some (b, w) with | none => (-6 : Int) | some (b, w) => if z.toInt = 0 then b else w + 10000) = w + 10000 from if_neg g] at hq
            rw [show iI (e2 0 (some (b, w))) + (10000 : Int32) = iI (w + 10000) from iI_add w 10000]
            exact hq _ _ _ _ (SH63 hr)
          · rw [show (match some (b, w) with | none => (-6 : Int) | some (b, w) => if z.toInt = 0 then b else w + 10000) = b from if_pos g] at hq; exact hq _ _ _ _ (SH63 hr)
      | succ r ih =>
        intro s o hsr h0 ho hq
        have e3 : iI s + 1 = iI (s + 1) := iI_add _ 1
        have em1 : iI s - (1 : Int32) = iI (s - 1) := iI_sub _ 1
        have hwb := wO_b h.1 s
        have hwb1 := wO_b h.1 (s - 1)
        have hl : -10000 ≤ lo_ T s ∧ lo_ T s ≤ 10000 := by unfold lo_; omega
        have hok := pstep h.1 (s := s) (by omega) ho
        show wb_X6_penny_41 _ _ _ _ _ _ _
        unfold wb_X6_penny_41
        rw [pgf] at hq
        unfold pst at hq hok
        refine br_lt y.toInt s rfl (tI (by omega)) (fun q => absurd q (by omega)) (fun _ => sp_X3_wO h.1 hr (by rw [tI (by omega)]; omega) ?_)
        rw [em1]
        refine sp_X3_wO h.1 hr (by rw [tI (by omega)]; omega) ?_
        rw [tI (by omega), tI (by omega)]
        refine nm_r (e' := iI (lo_ T s)) (iI_sub _ _) (sp_X3_cO h.1 hr ?_)
        rw [tI (by omega)]
        refine bz_e (fun q => nm_r e3 (ih (s + 1) o (by omega) (by omega) ho ?_)) (fun q => ?_)
        · rw [if_neg q] at hq; exact hq
        · rw [if_pos q] at hq hok
          cases o with
          | none => exact br_eq (-6) (-6) (tI (z := -6) (by omega)) rfl (fun _ => nm_r e3 (ih (s + 1) (some (s, lo_ T s)) (by omega) (by omega) hok hq)) (fun g => absurd rfl g)
          | some p =>
            obtain ⟨b, w⟩ := p
            have hbw := ho b w rfl
            refine br_eq b (-6) (tI (z := b) (by omega)) rfl (fun g => absurd g (by omega)) (fun _ => br_le (lo_ T s) w (tI (by omega)) (tI (z := w) (by omega)) (fun g => ?_) (fun g => ?_))
            · refine nm_r e3 (ih (s + 1) (some (b, w)) (by omega) (by omega) ho ?_)
              have e : (match some (b, w) with | none => some (s, lo_ T s) | some (b, w) => if lo_ T s ≤ w then some (b, w) else some (s, lo_ T s)) = some (b, w) := if_pos g
              rw [e] at hq; exact hq
            · have e : (match some (b, w) with | none => some (s, lo_ T s) | some (b, w) => if lo_ T s ≤ w then some (b, w) else some (s, lo_ T s)) = some (s, lo_ T s) := if_neg (by omega)
              rw [e] at hq hok
              exact nm_r e3 (ih (s + 1) (some (s, lo_ T s)) (by omega) (by omega) hok hq)
    have := loop (y.toInt - x.toInt + 1).toNat x.toInt none (by omega) h1 (fun b w h => by cases h) hQ
    rw [← iI_of x] at this
    exact this
  · have hz : ¬ (0 ≤ z.toInt ∧ z.toInt ≤ 1) := hz
    rw [if_neg (fun q => hz q.2)] at hQ; exact hQ _ _ _ _ hs
theorem sp_X7_penny {T : Tn} {less price stock worth best many : Nat → Int32} (h : TX T less price stock worth) {x y z : Int32} {Q : Int32 → (Nat → Int32) → (Nat → Int32) → Prop} (hQ : ∀ best many, Q (iI (a_penny T x.toInt y.toInt z.toInt)) best many) : wp_X7_penny x y z best less many price stock worth Q := by
  unfold wp_X7_penny
  unfold a_penny at hQ
  refine sp_X7_in (bz_e (fun hx => ?_) (fun hx => sp_X7_in (bz_e (fun hy => ?_) (fun hy => sp_X7_in (bz_n (fun hz => ?_) (fun hz => ?_))))))
  · have hx : ¬ (1 ≤ x.toInt ∧ x.toInt ≤ 999) := hx
    rw [if_neg (by omega)] at hQ; exact hQ _ _
  · rw [Int32.toInt_toInt64] at hy
    have hy : ¬ (x.toInt ≤ y.toInt ∧ y.toInt ≤ 999) := hy
    rw [if_neg (by omega)] at hQ; exact hQ _ _
  · rw [Int32.toInt_toInt64] at hy
    have hx : 1 ≤ x.toInt ∧ x.toInt ≤ 999 := hx
    have hy : x.toInt ≤ y.toInt ∧ y.toInt ≤ 999 := hy
    have hz : 0 ≤ z.toInt ∧ z.toInt ≤ 1 := hz
    rw [if_pos ⟨⟨hx.1, hy⟩, hz⟩] at hQ
    refine sp_X7_fillAll h.1 h.2.1 h.2.2.1 h.2.2.2.1 h.2.2.2.2 (fun best many hB => ⟨(y.toInt - x.toInt + 1).toNat + 1, ?_⟩)
    have hb := hB 0 (by omega)
    have loop : ∀ (r : Nat) (s : Int) (o : Option (Int × Int)), s + (r : Int) = y.toInt + 1 → 1 ≤ s → pok o → (∀ best many, Q (iI (p2 (pgf T r s o) z.toInt)) best many) → wl_X7_penny_52 y best (fun a b => wx_X7_penny_52 z a b best many Q) (r + 1) (iI (e1 o)) (iI (e2 0 o)) (iI s) := by
      intro r
      induction r with
      | zero =>
        intro s o hsr h0 ho hq
        show wb_X7_penny_52 _ _ _ _ _ _ _
        unfold wb_X7_penny_52
        refine br_lt y.toInt s rfl (tI (by omega)) (fun _ => ?_) (fun q => absurd q (by omega))
        show wx_X7_penny_52 _ _ _ _ _ _
        unfold wx_X7_penny_52
        rw [pgf] at hq
        cases o with
        | none => exact br_lt (-6) 0 (tI (z := -6) (by omega)) rfl (fun _ => hq _ _) (fun q => absurd q (by omega))
        | some p =>
          obtain ⟨b, w⟩ := p
          have hbw := ho b w rfl
          unfold p2 at hq
          refine br_lt b 0 (tI (z := b) (by omega)) rfl (fun q => absurd q (by omega)) (fun _ => br_ne z.toInt 0 rfl rfl (fun g => ?_) (fun g => ?_))
          · rw [show (match some (b, w) with | none => (-6 : Int) | some (b, w) => if z.toInt = 0 then b else w + 10000) = w + 10000 from if_neg g] at hq
            rw [show iI (e2 0 (some (b, w))) + (10000 : Int32) = iI (w + 10000) from iI_add w 10000]
            exact hq _ _
          · rw [show (match some (b, w) with | none => (-6 : Int) | some (b, w) => if z.toInt = 0 then b else w + 10000) = b from if_pos g] at hq; exact hq _ _
      | succ r ih =>
        intro s o hsr h0 ho hq
        have e3 : iI s + 1 = iI (s + 1) := iI_add _ 1
        have em1 : iI s - (1 : Int32) = iI (s - 1) := iI_sub _ 1
        have hwb := wO_b h.1 s
        have hwb1 := wO_b h.1 (s - 1)
        have hl : -10000 ≤ lo_ T s ∧ lo_ T s ≤ 10000 := by unfold lo_; omega
        have hok := pstep h.1 (s := s) (by omega) ho
        have hin : vp_in (iI s) 7000 := iI_in (by omega) (by omega) (by omega)
        show wb_X7_penny_52 _ _ _ _ _ _ _
        unfold wb_X7_penny_52
        rw [pgf] at hq
        unfold pst at hq hok
        rw [em1]
        refine br_lt y.toInt s rfl (tI (by omega)) (fun q => absurd q (by omega)) (fun _ => sp_X7_cO h.1 hb ?_)
        rw [tI (by omega)]
        have fin : cO T s = true → ∀ v : Int32, v = iI (lo_ T s) → ((iI (e1 o) < 0 → (∀ v17 : Int32, v17 = iI s + 1 → wl_X7_penny_52 y best (fun a b => wx_X7_penny_52 z a b best many Q) (r + 1) (iI s) v v17)) ∧ (¬ (iI (e1 o) < 0) → (((v ≤ iI (e2 0 o) → (∀ v19 : Int32, v19 = iI s + 1 → wl_X7_penny_52 y best (fun a b => wx_X7_penny_52 z a b best many Q) (r + 1) (iI (e1 o)) (iI (e2 0 o)) v19)) ∧ (¬ (v ≤ iI (e2 0 o)) → (∀ v20 : Int32, v20 = iI s + 1 → wl_X7_penny_52 y best (fun a b => wx_X7_penny_52 z a b best many Q) (r + 1) (iI s) v v20)))))) := by
          intro q v hv
          subst hv
          rw [if_pos q] at hq hok
          cases o with
          | none => exact br_lt (-6) 0 (tI (z := -6) (by omega)) rfl (fun _ => nm_r e3 (ih (s + 1) (some (s, lo_ T s)) (by omega) (by omega) hok hq)) (fun g => absurd g (by omega))
          | some p =>
            obtain ⟨b, w⟩ := p
            have hbw := ho b w rfl
            refine br_lt b 0 (tI (z := b) (by omega)) rfl (fun g => absurd g (by omega)) (fun _ => br_le (lo_ T s) w (tI (by omega)) (tI (z := w) (by omega)) (fun g => ?_) (fun g => ?_))
            · refine nm_r e3 (ih (s + 1) (some (b, w)) (by omega) (by omega) ho ?_)
              have e : (match some (b, w) with | none => some (s, lo_ T s) | some (b, w) => if lo_ T s ≤ w then some (b, w) else some (s, lo_ T s)) = some (b, w) := if_pos g
              rw [e] at hq; exact hq
            · have e : (match some (b, w) with | none => some (s, lo_ T s) | some (b, w) => if lo_ T s ≤ w then some (b, w) else some (s, lo_ T s)) = some (s, lo_ T s) := if_neg (by omega)
              rw [e] at hq hok
              exact nm_r e3 (ih (s + 1) (some (s, lo_ T s)) (by omega) (by omega) hok hq)
        refine bz_e (fun q => nm_r e3 (ih (s + 1) o (by omega) (by omega) ho ?_)) (fun q => ⟨hin, sp_X7_cO h.1 hb ?_⟩)
        · rw [if_neg q] at hq; exact hq
        · rw [tI (by omega), iI_cl (by omega) (by omega), iI_cl (by omega) (by omega), MB_w h.1 hb q]
          refine bz_e (fun q1 => nm_r (e' := iI (lo_ T s)) ?_ (fin q _ rfl)) (fun q1 => ⟨iI_in (by omega) (by omega) (by omega), nm_r (e' := iI (lo_ T s)) ?_ (fin q _ rfl)⟩)
          · refine (iI_sub _ 0).trans ?_
            unfold lo_
            rw [wO_no (T := T) (z := s - 1) (by omega) q1]
          · rw [MB_w h.1 hb q1]
            exact iI_sub _ _
    have := loop (y.toInt - x.toInt + 1).toNat x.toInt none (by omega) hx.1 (fun b w h => by cases h) hQ
    rw [← iI_of x] at this
    exact this
  · have hz : ¬ (0 ≤ z.toInt ∧ z.toInt ≤ 1) := hz
    rw [if_neg (fun q => hz q.2)] at hQ; exact hQ _ _
/-! year -/
theorem iI_rem {a d : Nat} (ha : a < 2147483648) (h0 : 0 < d) (hd : d < 2147483648) : iI (a : Int) - iI (a : Int) / iI (d : Int) * iI (d : Int) = iI ((a % d : Nat) : Int) := by
  rw [← iI_nI, ← iI_nI, ← iI_nI]
  exact pk_rem (by omega) h0 (by omega)
theorem lI_lN (n : Nat) : lN n = lI (n : Int) := (Int64.ofInt_eq_ofNat).symm
theorem lI_rem {a d : Nat} (ha : a < 9223372036854775808) (h0 : 0 < d) (hd : d < 9223372036854775808) : lI (a : Int) - lI (a : Int) / lI (d : Int) * lI (d : Int) = lI ((a % d : Nat) : Int) := by
  rw [← lI_lN, ← lI_lN, ← lI_lN]
  exact pk_lRem (by omega) h0 (by omega)
def ynx (x : Nat) : Nat := (75 * x + 74) % 65537
def ygf (T : Tn) : Nat → Nat → Int → Int → Int × Int
  | 0, _, n, a => (n, a)
  | r + 1, x, n, a => ygf T r (ynx x) (if cO T ((ynx x % 200 : Nat) : Int) = true then n + 1 else n) (if cO T ((ynx x % 200 : Nat) : Int) = true then a + wO T ((ynx x % 200 : Nat) : Int) else a)
def a_year (T : Tn) (a b c : Int) : Int := if (0 ≤ a ∧ a ≤ 9999) ∧ (1 ≤ b ∧ b ≤ 99) ∧ 0 ≤ c ∧ c ≤ 1 then (if c = 0 then (ygf T b.toNat a.toNat 0 0).1 else (ygf T b.toNat a.toNat 0 0).2) else -2
theorem ynx_32 {x : Nat} (hx : x < 65537) : (((75 : Int32) * iI (x : Int) + (74 : Int32)) - ((75 : Int32) * iI (x : Int) + (74 : Int32)) / (65537 : Int32) * (65537 : Int32)) = iI (ynx x : Int) := by
  have e : (75 : Int32) * iI (x : Int) + (74 : Int32) = iI ((75 * x + 74 : Nat) : Int) := by
    rw [show (75 : Int32) * iI (x : Int) = iI (75 * (x : Int)) from iI_mul 75 _]
    exact iI_add _ 74
  rw [e]
  exact iI_rem (d := 65537) (by omega) (by omega) (by omega)
theorem ynx_64 {x : Nat} (hx : x < 65537) : Int64.toInt32 (((75 : Int64) * (Int32.toInt64 (iI (x : Int))) + (74 : Int64)) - ((75 : Int64) * (Int32.toInt64 (iI (x : Int))) + (74 : Int64)) / (65537 : Int64) * (65537 : Int64)) = iI (ynx x : Int) := by
  have e : (75 : Int64) * (Int32.toInt64 (iI (x : Int))) + (74 : Int64) = lI ((75 * x + 74 : Nat) : Int) := by
    rw [iI_l (by omega) (by omega), show (75 : Int64) * lI (x : Int) = lI (75 * (x : Int)) from lI_mul 75 _]
    exact lI_add _ 74
  rw [e]
  refine (congrArg Int64.toInt32 (lI_rem (d := 65537) (by omega) (by omega) (by omega))).trans ?_
  exact lI_i _ (by omega) (by omega)
theorem ynx_lt (x : Nat) : ynx x < 65537 := Nat.mod_lt _ (by omega)
theorem rem200 (x : Nat) (hx : x < 65537) : iI (x : Int) - iI (x : Int) / (200 : Int32) * (200 : Int32) = iI ((x % 200 : Nat) : Int) := iI_rem (d := 200) (by omega) (by omega) (by omega)
theorem sp_X6_year {T : Tn} {less price stock worth : Nat → Int32} (h : TX T less price stock worth) {fw reach x y z : Int32} {gains ranks : Nat → Int64} (hs : SHx T fw ranks) {Q : Int32 → Int32 → (Nat → Int64) → (Nat → Int64) → Int32 → Prop} (hQ : ∀ fw gains ranks reach, SHx T fw ranks → Q (iI (a_year T x.toInt y.toInt z.toInt)) fw gains ranks reach) : wp_X6_year x y z fw gains ranks reach less price stock worth Q := by
  unfold wp_X6_year
  unfold a_year at hQ
  refine sp_X6_within (bz_e (fun hx => ?_) (fun hx => sp_X6_within (bz_e (fun hy => ?_) (fun hy => sp_X6_within (bz_n (fun hz => ?_) (fun hz => ?_))))))
  · have hx : ¬ (0 ≤ x.toInt ∧ x.toInt ≤ 9999) := hx
    rw [if_neg (fun q => hx q.1)] at hQ; exact hQ _ _ _ _ hs
  · have hy : ¬ (1 ≤ y.toInt ∧ y.toInt ≤ 99) := hy
    rw [if_neg (fun q => hy q.2.1)] at hQ; exact hQ _ _ _ _ hs
  · have hx : 0 ≤ x.toInt ∧ x.toInt ≤ 9999 := hx
    have hy : 1 ≤ y.toInt ∧ y.toInt ≤ 99 := hy
    have hz : 0 ≤ z.toInt ∧ z.toInt ≤ 1 := hz
    rw [if_pos ⟨hx, hy, hz⟩] at hQ
    refine sp_X6_market h hs (fun gains ranks reach hr => ⟨y.toInt.toNat + 1, ?_⟩)
    have loop : ∀ (r : Nat) (k u : Nat) (n a : Int), k + r = y.toInt.toNat → u < 65537 → (0 ≤ n ∧ n ≤ (k : Int)) → (0 ≤ a ∧ a ≤ 10000 * (k : Int)) → (∀ fw gains ranks reach, SHx T fw ranks → Q (iI (if z.toInt = 0 then (ygf T r u n a).1 else (ygf T r u n a).2)) fw gains ranks reach) → wl_X6_year_51 y ranks (fun a b => wx_X6_year_51 z a b (iI 63) gains ranks reach Q) (r + 1) (iI (u : Int)) (iI n) (iI a) (iI (k : Int)) := by
      intro r
      induction r with
      | zero =>
        intro k u n a hk hu hn ha hq
        show wb_X6_year_51 _ _ _ _ _ _ _ _
        unfold wb_X6_year_51
        refine br_le y.toInt (k : Int) rfl (tN (by omega)) (fun _ => ?_) (fun q => absurd q (by omega))
        show wx_X6_year_51 _ _ _ _ _ _ _ _
        unfold wx_X6_year_51
        rw [ygf] at hq
        refine br_ne z.toInt 0 rfl rfl (fun g => ?_) (fun g => ?_)
        · rw [if_neg g] at hq; exact hq _ _ _ _ (SH63 hr)
        · rw [if_pos g] at hq; exact hq _ _ _ _ (SH63 hr)
      | succ r ih =>
        intro k u n a hk hu hn ha hq
        have e3 : iI (k : Int) + 1 = iI ((k + 1 : Nat) : Int) := iI_add _ 1
        have hlt := ynx_lt u
        have hwb := wO_b h.1 ((ynx u % 200 : Nat) : Int)
        show wb_X6_year_51 _ _ _ _ _ _ _ _
        unfold wb_X6_year_51
        rw [ygf] at hq
        refine br_le y.toInt (k : Int) rfl (tN (by omega)) (fun q => absurd q (by omega)) (fun _ => nm_r (ynx_32 hu) (nm_r (rem200 _ hlt) (sp_X3_cO h.1 hr ?_)))
        rw [tN (by omega)]
        refine bz_e (fun q => nm_r e3 (ih (k + 1) _ _ _ (by omega) hlt (by omega) (by omega) ?_)) (fun q => nm_r (iI_add _ 1) (sp_X3_wO h.1 hr (by rw [tN (by omega)]; omega) (nm_r (iI_add _ _) (nm_r e3 (ih (k + 1) _ _ _ (by omega) hlt (by omega) (by rw [tN (by omega)]; omega) ?_)))))
        · rw [if_neg q, if_neg q] at hq; exact hq
        · rw [tN (by omega)]
          rw [if_pos q, if_pos q] at hq; exact hq
    have := loop y.toInt.toNat 0 x.toInt.toNat 0 0 (by omega) (by omega) (by omega) (by omega) hQ
    rw [← nat_of hx.1] at this
    exact this
  · have hz : ¬ (0 ≤ z.toInt ∧ z.toInt ≤ 1) := hz
    rw [if_neg (fun q => hz q.2.2)] at hQ; exact hQ _ _ _ _ hs
theorem sp_X7_year {T : Tn} {less price stock worth best many : Nat → Int32} (h : TX T less price stock worth) {x y z : Int32} {Q : Int32 → (Nat → Int32) → (Nat → Int32) → Prop} (hQ : ∀ best many, Q (iI (a_year T x.toInt y.toInt z.toInt)) best many) : wp_X7_year x y z best less many price stock worth Q := by
  unfold wp_X7_year
  unfold a_year at hQ
  refine sp_X7_in (bz_e (fun hx => ?_) (fun hx => sp_X7_in (bz_e (fun hy => ?_) (fun hy => sp_X7_in (bz_n (fun hz => ?_) (fun hz => ?_))))))
  · have hx : ¬ (0 ≤ x.toInt ∧ x.toInt ≤ 9999) := hx
    rw [if_neg (fun q => hx q.1)] at hQ; exact hQ _ _
  · have hy : ¬ (1 ≤ y.toInt ∧ y.toInt ≤ 99) := hy
    rw [if_neg (fun q => hy q.2.1)] at hQ; exact hQ _ _
  · have hx : 0 ≤ x.toInt ∧ x.toInt ≤ 9999 := hx
    have hy : 1 ≤ y.toInt ∧ y.toInt ≤ 99 := hy
    have hz : 0 ≤ z.toInt ∧ z.toInt ≤ 1 := hz
    rw [if_pos ⟨hx, hy, hz⟩] at hQ
    refine sp_X7_fillAll h.1 h.2.1 h.2.2.1 h.2.2.2.1 h.2.2.2.2 (fun best many hB => ⟨y.toInt.toNat + 1, ?_⟩)
    have hb := hB 0 (by omega)
    have loop : ∀ (r : Nat) (k u : Nat) (n a : Int), k + r = y.toInt.toNat → u < 65537 → (0 ≤ n ∧ n ≤ (k : Int)) → (0 ≤ a ∧ a ≤ 10000 * (k : Int)) → (∀ best many, Q (iI (if z.toInt = 0 then (ygf T r u n a).1 else (ygf T r u n a).2)) best many) → wl_X7_year_53 y best (fun a b => wx_X7_year_53 z a b best many Q) (r + 1) (iI (u : Int)) (iI n) (iI a) (iI (k : Int)) := by
      intro r
      induction r with
      | zero =>
        intro k u n a hk hu hn ha hq
        show wb_X7_year_53 _ _ _ _ _ _ _ _
        unfold wb_X7_year_53
        refine br_le y.toInt (k : Int) rfl (tN (by omega)) (fun _ => ?_) (fun q => absurd q (by omega))
        show wx_X7_year_53 _ _ _ _ _ _
        unfold wx_X7_year_53
        rw [ygf] at hq
        refine br_ne z.toInt 0 rfl rfl (fun g => ?_) (fun g => ?_)
        · rw [if_neg g] at hq; exact hq _ _
        · rw [if_pos g] at hq; exact hq _ _
      | succ r ih =>
        intro k u n a hk hu hn ha hq
        have e3 : iI (k : Int) + 1 = iI ((k + 1 : Nat) : Int) := iI_add _ 1
        have hlt := ynx_lt u
        have hwb := wO_b h.1 ((ynx u % 200 : Nat) : Int)
        have hin : vp_in (iI ((ynx u % 200 : Nat) : Int)) 7000 := iI_in (by omega) (by omega) (by omega)
        show wb_X7_year_53 _ _ _ _ _ _ _ _
        unfold wb_X7_year_53
        rw [ygf] at hq
        refine br_le y.toInt (k : Int) rfl (tN (by omega)) (fun q => absurd q (by omega)) (fun _ => nm_r (ynx_64 hu) ?_)
        rw [rem200 _ hlt]
        refine sp_X7_cO h.1 hb ?_
        rw [tN (by omega)]
        refine bz_e (fun q => nm_r (e' := iI n) ((iI_add _ 0).trans (by rw [Int.add_zero])) (sp_X7_cO h.1 hb ?_)) (fun q => nm_r (iI_add _ 1) (sp_X7_cO h.1 hb ?_))
        · rw [tN (by omega), bz_f q]
          refine ⟨fun _ => nm_r (e' := iI a) ((iI_add _ 0).trans (by rw [Int.add_zero])) (nm_r e3 (ih (k + 1) _ _ _ (by omega) hlt (by omega) (by omega) ?_)), fun g => absurd rfl g⟩
          rw [if_neg q, if_neg q] at hq; exact hq
        · rw [tN (by omega), bz_t q]
          refine ⟨fun g => absurd g (by decide), fun _ => ⟨hin, ?_⟩⟩
          have ew : best (Int32.toNatClampNeg (iI ((ynx u % 200 : Nat) : Int))) = iI (wO T ((ynx u % 200 : Nat) : Int)) := by
            rw [iI_cl (by omega) (by omega)]
            exact MB_w h.1 hb q
          rw [ew]
          refine nm_r (iI_add _ _) (nm_r e3 (ih (k + 1) _ _ _ (by omega) hlt (by omega) (by omega) ?_))
          rw [if_pos q, if_pos q] at hq; exact hq
    have := loop y.toInt.toNat 0 x.toInt.toNat 0 0 (by omega) (by omega) (by omega) (by omega) hQ
    rw [← nat_of hx.1] at this
    exact this
  · have hz : ¬ (0 ≤ z.toInt ∧ z.toInt ≤ 1) := hz
    rw [if_neg (fun q => hz q.2.2)] at hQ; exact hQ _ _
