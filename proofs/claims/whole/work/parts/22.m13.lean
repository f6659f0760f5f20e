/-! best, ways, pays, wage -/
def a_best (T : Tn) (z i : Int) : Int := if 0 ≤ z ∧ z ≤ 999 then (if cO T z = true then (if i = -1 then wO T z else if 0 ≤ i ∧ i ≤ 5 then kO T z i.toNat else -6) else -6) else -2
theorem sp_X6_best {T : Tn} {less price stock worth : Nat → Int32} (h : TX T less price stock worth) {fw reach x y : Int32} {gains ranks : Nat → Int64} (hs : SHx T fw ranks) {Q : Int32 → Int32 → (Nat → Int64) → (Nat → Int64) → Int32 → Prop} (hQ : ∀ fw gains ranks reach, SHx T fw ranks → Q (iI (a_best T x.toInt y.toInt)) fw gains ranks reach) : wp_X6_best x y fw gains ranks reach less price stock worth Q := by
  unfold wp_X6_best
  unfold a_best at hQ
  refine sp_X6_isSum (bz_n (fun hx => ?_) (fun hx => ?_))
  · rw [if_pos hx] at hQ
    refine sp_X6_market h hs (fun gains ranks reach hr => sp_X3_cO h.1 hr (bz_e (fun q => ?_) (fun q => ?_)))
    · rw [if_neg q] at hQ; exact hQ _ _ _ _ (SH63 hr)
    · rw [if_pos q] at hQ
      refine sp_X6_within (bz_n (fun g => ?_) (fun g => ?_))
      · have g : -1 ≤ y.toInt ∧ y.toInt ≤ 5 := g
        refine br_ne y.toInt (-1) rfl rfl (fun g2 => ?_) (fun g2 => ?_)
        · rw [if_neg g2, if_pos (by omega)] at hQ
          rw [nat_of (show 0 ≤ y.toInt by omega)]
          exact sp_X3_kO h.1 hr hx (by omega) (hQ _ _ _ _ (SH63 hr))
        · rw [if_pos g2] at hQ
          exact sp_X3_wO h.1 hr hx (hQ _ _ _ _ (SH63 hr))
      · have g : ¬ (-1 ≤ y.toInt ∧ y.toInt ≤ 5) := g
        rw [if_neg (by omega), if_neg (by omega)] at hQ
        exact hQ _ _ _ _ (SH63 hr)
  · rw [if_neg hx] at hQ; exact hQ _ _ _ _ hs
theorem sp_X7_best {T : Tn} {less price stock worth best many lies : Nat → Int32} (h : TX T less price stock worth) {x y : Int32} {Q : Int32 → (Nat → Int32) → (Nat → Int32) → (Nat → Int32) → Prop} (hQ : ∀ best lies many, Q (iI (a_best T x.toInt y.toInt)) best lies many) : wp_X7_best x y best less lies many price stock worth Q := by
  unfold wp_X7_best
  unfold a_best at hQ
  refine sp_X7_isSum (bz_n (fun hx => ?_) (fun hx => ?_))
  · rw [if_pos hx] at hQ
    refine sp_X7_fillAll h.1 h.2.1 h.2.2.1 h.2.2.2.1 h.2.2.2.2 (fun best many hB => sp_X7_cO h.1 (hB 0 (by omega)) (bz_n (fun q => ?_) (fun q => ?_)))
    · rw [if_pos q] at hQ
      refine br_ne y.toInt (-1) rfl rfl (fun g2 => ?_) (fun g2 => ?_)
      · rw [if_neg g2] at hQ
        refine sp_X7_lay h hB q (fun lies hl => sp_X7_isThing (bz_e (fun g => ?_) (fun g => ?_)))
        · rw [if_neg g] at hQ; exact hQ _ _ _
        · rw [if_pos g] at hQ
          refine ⟨vp_in_iff.mpr ⟨g.1, by omega⟩, ?_⟩
          rw [show lies (Int32.toNatClampNeg y) = iI (kO T x.toInt y.toInt.toNat) from hl y.toInt.toNat (by omega)]
          exact hQ _ _ _
      · rw [if_pos g2] at hQ
        refine ⟨vp_in_iff.mpr ⟨hx.1, by omega⟩, ?_⟩
        rw [show best (Int32.toNatClampNeg x) = iI (wO T x.toInt) from MB_w h.1 (hB 0 (by omega)) q]
        exact hQ _ _ _
    · rw [if_neg q] at hQ; exact hQ _ _ _
  · rw [if_neg hx] at hQ; exact hQ _ _ _
def a_ways (T : Tn) (z : Int) : Int32 := if 0 ≤ z ∧ z ≤ 999 then wy T z.toNat else iI (-2)
theorem sp_X6_ways {T : Tn} {price stock b : Nat → Int32} {co x : Int32} (hT : Tok T) (hp : aN price (tP T) 6) (hst : aN stock (tS T) 6) (hy : TYx T b co) {Q : Int32 → (Nat → Int32) → Int32 → Prop} (hQ : ∀ b co, TYx T b co → Q (a_ways T x.toInt) b co) : wp_X6_ways x b co price stock Q := by
  unfold wp_X6_ways
  unfold a_ways at hQ
  refine sp_X6_isSum (bz_n (fun hx => ?_) (fun hx => ?_))
  · rw [if_pos hx] at hQ
    exact sp_X4_count hT hp hst hy (fun b hb => sp_X4_at hb hx (hQ b 1 (Or.inr ⟨rfl, hb⟩)))
  · rw [if_neg hx] at hQ; exact hQ _ _ hy
theorem sp_X7_ways {T : Tn} {less price stock worth best many : Nat → Int32} (h : TX T less price stock worth) {x : Int32} {Q : Int32 → (Nat → Int32) → (Nat → Int32) → Prop} (hQ : ∀ best many, Q (a_ways T x.toInt) best many) : wp_X7_ways x best less many price stock worth Q := by
  unfold wp_X7_ways
  unfold a_ways at hQ
  refine sp_X7_isSum (bz_n (fun hx => ?_) (fun hx => ?_))
  · rw [if_pos hx] at hQ
    refine sp_X7_fillAll h.1 h.2.1 h.2.2.1 h.2.2.2.1 h.2.2.2.2 (fun best many hB => ⟨vp_in_iff.mpr ⟨hx.1, by omega⟩, ?_⟩)
    have e : many (Int32.toNatClampNeg x) = wy T x.toInt.toNat := by
      have := (hB 0 (by omega) x.toInt.toNat (by omega)).2
      rw [Nat.mul_zero, Nat.zero_add] at this
      rw [wy_wS]
      exact this
    rw [e]
    exact hQ _ _
  · rw [if_neg hx] at hQ; exact hQ _ _
/-- is there such a purse -/
def pO (T : Tn) (z : Int) : Bool := decide ((0 ≤ z ∧ z ≤ 3) ∧ 0 ≤ tQ T z.toNat)
theorem pO_iff (T : Tn) (z : Int) : pO T z = true ↔ (0 ≤ z ∧ z ≤ 3) ∧ 0 ≤ tQ T z.toNat := by
  unfold pO
  rw [decide_eq_true_iff]
def pN (purse : Nat → Int32) (T : Tn) : Prop := ∀ p, p < 4 → purse p = iI (tQ T p)
theorem sp_X5_pO {T : Tn} {purse : Nat → Int32} (hT : Tok T) (hp : pN purse T) {x : Int32} {Q : Int32 → Prop} (hQ : Q (bz (pO T x.toInt = true))) : wp_X5_hasPurse x purse Q := by
  refine sp_X5_hasPurse hT hp ?_
  by_cases g : pO T x.toInt = true
  · rw [bz_t g] at hQ; rw [bz_t ((pO_iff T _).mp g)]; exact hQ
  · rw [bz_f g] at hQ; rw [bz_f (fun q => g ((pO_iff T _).mpr q))]; exact hQ
theorem sp_X7_pO {T : Tn} {purse : Nat → Int32} (hT : Tok T) (hp : pN purse T) {x : Int32} {Q : Int32 → Prop} (hQ : Q (bz (pO T x.toInt = true))) : wp_X7_isThere x purse Q := by
  unfold wp_X7_isThere
  refine sp_X7_isPurse (bz_e (fun h => ?_) (fun h => ⟨vp_in_iff.mpr ⟨h.1, by omega⟩, ?_⟩))
  · rw [bz_f (fun q => h ((pO_iff T _).mp q).1)] at hQ; exact hQ
  · have e : purse (Int32.toNatClampNeg x) = iI (tQ T x.toInt.toNat) := hp x.toInt.toNat (by omega)
    have hb := hT.2.1 x.toInt.toNat (by omega)
    rw [e]
    refine br_lt _ 0 (tI (by omega)) rfl (fun h2 => ?_) (fun h2 => ?_)
    · rw [bz_f (fun q => by have := ((pO_iff T _).mp q).2; omega)] at hQ; exact hQ
    · rw [bz_t ((pO_iff T _).mpr ⟨h, h2⟩)] at hQ; exact hQ
def py_ (T : Tn) (u v : Int) (k : Nat) : Bool := cO T (u - (k : Int)) && cO T (v + (k : Int))
def a_pays (T : Tn) (p q : Int) : Int := if pO T p = true ∧ pO T q = true ∧ p ≠ q then fan (fsr (py_ T (tQ T p.toNat) (tQ T q.toNat)) 1000 0) else -1
theorem sp_X6_pays {T : Tn} {less price stock worth purse : Nat → Int32} (h : TX T less price stock worth) (hp : pN purse T) {fw reach x y : Int32} {gains ranks : Nat → Int64} (hs : SHx T fw ranks) {Q : Int32 → Int32 → (Nat → Int64) → (Nat → Int64) → Int32 → Prop} (hQ : ∀ fw gains ranks reach, SHx T fw ranks → Q (iI (a_pays T x.toInt y.toInt)) fw gains ranks reach) : wp_X6_pays x y fw gains ranks reach less price purse stock worth Q := by
  unfold wp_X6_pays
  unfold a_pays at hQ
  refine sp_X5_pO h.1 hp (bz_e (fun hx => ?_) (fun hx => sp_X5_pO h.1 hp (bz_e (fun hy => ?_) (fun hy => br_ne x.toInt y.toInt rfl rfl (fun hn => ?_) (fun hn => ?_)))))
  · rw [if_neg (fun q => hx q.1)] at hQ; exact hQ _ _ _ _ hs
  · rw [if_neg (fun q => hy q.2.1)] at hQ; exact hQ _ _ _ _ hs
  · rw [if_pos ⟨hx, hy, hn⟩] at hQ
    have gx := (pO_iff T _).mp hx
    have gy := (pO_iff T _).mp hy
    have bx := h.1.2.1 x.toInt.toNat (by omega)
    have bY := h.1.2.1 y.toInt.toNat (by omega)
    refine sp_X6_market h hs (fun gains ranks reach hr => ⟨vp_in_iff.mpr ⟨gx.1.1, by omega⟩, nm_r (e' := iI (tQ T x.toInt.toNat)) (hp x.toInt.toNat (by omega)) ⟨vp_in_iff.mpr ⟨gy.1.1, by omega⟩, nm_r (e' := iI (tQ T y.toInt.toNat)) (hp y.toInt.toNat (by omega)) ⟨1001, ?_⟩⟩⟩)
    generalize tQ T x.toInt.toNat = u at *
    generalize tQ T y.toInt.toNat = v at *
    have loop : ∀ r j, j + r = 1000 → (∀ fw gains ranks reach, SHx T fw ranks → Q (iI (fan (fsr (py_ T u v) r j))) fw gains ranks reach) → wl_X6_pays_59 (iI u) (iI v) (iI 63) gains ranks reach (wx_X6_pays_59 (iI 63) gains ranks reach Q) Q (r + 1) (iI (j : Int)) := by
      intro r
      induction r with
      | zero =>
        intro j hj hq
        show wb_X6_pays_59 _ _ _ _ _ _ _ _ _ _
        unfold wb_X6_pays_59
        exact br_lt 999 (j : Int) rfl (tN (by omega)) (fun _ => hq _ _ _ _ (SH63 hr)) (fun q => absurd q (by omega))
      | succ r ih =>
        intro j hj hq
        have e3 : iI (j : Int) + 1 = iI ((j + 1 : Nat) : Int) := iI_add _ 1
        show wb_X6_pays_59 _ _ _ _ _ _ _ _ _ _
        unfold wb_X6_pays_59
        rw [fsr] at hq
        rw [iI_sub, iI_add]
        refine br_lt 999 (j : Int) rfl (tN (by omega)) (fun q => absurd q (by omega)) (fun _ => sp_X3_cO h.1 hr ?_)
        rw [tI (by omega)]
        refine bz_e (fun q => nm_r e3 (ih (j + 1) (by omega) ?_)) (fun q => sp_X3_cO h.1 hr ?_)
        · rw [if_neg (by unfold py_; rw [Bool.and_eq_true]; exact fun g => q g.1)] at hq; exact hq
        · rw [tI (by omega)]
          refine bz_e (fun q2 => nm_r e3 (ih (j + 1) (by omega) ?_)) (fun q2 => ?_)
          · rw [if_neg (by unfold py_; rw [Bool.and_eq_true]; exact fun g => q2 g.2)] at hq; exact hq
          · rw [if_pos (by unfold py_; rw [Bool.and_eq_true]; exact ⟨q, q2⟩)] at hq; exact hq _ _ _ _ (SH63 hr)
    exact loop 1000 0 (by omega) hQ
  · rw [if_neg (fun q => q.2.2 hn)] at hQ; exact hQ _ _ _ _ hs
theorem sp_X7_pays {T : Tn} {less price stock worth purse best many : Nat → Int32} (h : TX T less price stock worth) (hp : pN purse T) {x y : Int32} {Q : Int32 → (Nat → Int32) → (Nat → Int32) → Prop} (hQ : ∀ best many, Q (iI (a_pays T x.toInt y.toInt)) best many) : wp_X7_pays x y best less many price purse stock worth Q := by
  unfold wp_X7_pays
  unfold a_pays at hQ
  refine sp_X7_pO h.1 hp (bz_e (fun hx => ?_) (fun hx => sp_X7_pO h.1 hp (bz_e (fun hy => ?_) (fun hy => br_ne x.toInt y.toInt rfl rfl (fun hn => ?_) (fun hn => ?_)))))
  · rw [if_neg (fun q => hx q.1)] at hQ; exact hQ _ _
  · rw [if_neg (fun q => hy q.2.1)] at hQ; exact hQ _ _
  · rw [if_pos ⟨hx, hy, hn⟩] at hQ
    have gx := (pO_iff T _).mp hx
    have gy := (pO_iff T _).mp hy
    have bx := h.1.2.1 x.toInt.toNat (by omega)
    have bY := h.1.2.1 y.toInt.toNat (by omega)
    have ex : purse (Int32.toNatClampNeg x) = iI (tQ T x.toInt.toNat) := hp x.toInt.toNat (by omega)
    have ey : purse (Int32.toNatClampNeg y) = iI (tQ T y.toInt.toNat) := hp y.toInt.toNat (by omega)
    have ix : vp_in x 4 := vp_in_iff.mpr ⟨gx.1.1, by omega⟩
    have iy : vp_in y 4 := vp_in_iff.mpr ⟨gy.1.1, by omega⟩
    refine sp_X7_fillAll h.1 h.2.1 h.2.2.1 h.2.2.2.1 h.2.2.2.2 (fun best many hB => ⟨(tQ T x.toInt.toNat).toNat + 2, ?_⟩)
    have hb := hB 0 (by omega)
    have hcut : fsr (py_ T (tQ T x.toInt.toNat) (tQ T y.toInt.toNat)) 1000 0 = fsr (py_ T (tQ T x.toInt.toNat) (tQ T y.toInt.toNat)) ((tQ T x.toInt.toNat).toNat + 1) 0 := by
      have := fsr_more (p := py_ T (tQ T x.toInt.toNat) (tQ T y.toInt.toNat)) (r2 := 999 - (tQ T x.toInt.toNat).toNat) ((tQ T x.toInt.toNat).toNat + 1) 0 (fun i h1 h2 => by
        unfold py_
        rw [Bool.and_eq_false_iff]
        left
        cases hq : cO T (tQ T x.toInt.toNat - (i : Int)) with
        | false => rfl
        | true => have := (cO_iff T _).mp hq; omega)
      rw [← this]
      congr 1
      omega
    rw [hcut] at hQ
    have loop : ∀ r j, j + r = (tQ T x.toInt.toNat).toNat + 1 → (∀ best many, Q (iI (fan (fsr (py_ T (tQ T x.toInt.toNat) (tQ T y.toInt.toNat)) r j))) best many) → wl_X7_pays_29 x y best many purse (wx_X7_pays_29 best many Q) Q (r + 1) (iI (j : Int)) := by
      intro r
      induction r with
      | zero =>
        intro j hj hq
        show wb_X7_pays_29 _ _ _ _ _ _ _ _ _
        unfold wb_X7_pays_29
        rw [ex, ey]
        exact ⟨ix, br_lt (tQ T x.toInt.toNat) (j : Int) (tI (by omega)) (tN (by omega)) (fun _ => hq _ _) (fun q => absurd q (by omega))⟩
      | succ r ih =>
        intro j hj hq
        have e3 : iI (j : Int) + 1 = iI ((j + 1 : Nat) : Int) := iI_add _ 1
        show wb_X7_pays_29 _ _ _ _ _ _ _ _ _
        unfold wb_X7_pays_29
        rw [fsr] at hq
        rw [ex, ey, iI_sub, iI_add]
        refine ⟨ix, br_lt (tQ T x.toInt.toNat) (j : Int) (tI (by omega)) (tN (by omega)) (fun q => absurd q (by omega)) (fun _ => ⟨ix, sp_X7_cO h.1 hb ?_⟩)⟩
        rw [tI (by omega)]
        refine bz_e (fun q => nm_r e3 (ih (j + 1) (by omega) ?_)) (fun q => ⟨iy, sp_X7_cO h.1 hb ?_⟩)
        · rw [if_neg (by unfold py_; rw [Bool.and_eq_true]; exact fun g => q g.1)] at hq; exact hq
        · rw [tI (by omega)]
          refine bz_e (fun q2 => nm_r e3 (ih (j + 1) (by omega) ?_)) (fun q2 => ?_)
          · rw [if_neg (by unfold py_; rw [Bool.and_eq_true]; exact fun g => q2 g.2)] at hq; exact hq
          · rw [if_pos (by unfold py_; rw [Bool.and_eq_true]; exact ⟨q, q2⟩)] at hq; exact hq _ _
    exact loop ((tQ T x.toInt.toNat).toNat + 1) 0 (by omega) hQ
  · rw [if_neg (fun q => q.2.2 hn)] at hQ; exact hQ _ _
/-! wage -/
def wst (T : Tn) (s : Int) (o : Option (Int × Int)) : Option (Int × Int) := if cO T s = true then (match o with | none => some (s, wO T s) | some (b, w) => if wO T s ≤ w then some (b, w) else some (s, wO T s)) else o
def wgf (T : Tn) : Nat → Int → Option (Int × Int) → Option (Int × Int)
  | 0, _, o => o
  | r + 1, s, o => wgf T r (s + 1) (wst T s o)
def w2 (o : Option (Int × Int)) (c : Int) : Int := match o with
  | none => -6
  | some (b, w) => if c = 0 then b else w
def a_wage (T : Tn) (a b c : Int) : Int := if 0 ≤ a ∧ a ≤ b ∧ b ≤ 999 then (if 0 ≤ c ∧ c ≤ 1 then w2 (wgf T (b - a + 1).toNat a none) c else -2) else -2
/-- the two numbers of a search, none as -6 and e -/
def e1 (o : Option (Int × Int)) : Int := match o with | none => -6 | some (b, _) => b
def e2 (e : Int) (o : Option (Int × Int)) : Int := match o with | none => e | some (_, w) => w
def wok (o : Option (Int × Int)) : Prop := ∀ b w, o = some (b, w) → (0 ≤ b ∧ b ≤ 999) ∧ 0 ≤ w ∧ w ≤ 10000
theorem wstep {T : Tn} (hT : Tok T) {s : Int} (h0 : 0 ≤ s ∧ s ≤ 999) {o : Option (Int × Int)} (ho : wok o) : wok (wst T s o) := by
  have hw := wO_b hT s
  unfold wst
  by_cases hc : cO T s = true
  · rw [if_pos hc]
    cases o with
    | none => intro b w h; cases h; exact ⟨h0, hw⟩
    | some p =>
      obtain ⟨b0, w0⟩ := p
      intro b w h
      have h : (if wO T s ≤ w0 then some (b0, w0) else some (s, wO T s)) = some (b, w) := h
      by_cases g : wO T s ≤ w0
      · rw [if_pos g] at h; exact ho b w h
      · rw [if_neg g] at h; cases h; exact ⟨h0, hw⟩
  · rw [if_neg hc]; exact ho
theorem sp_X6_wage {T : Tn} {less price stock worth : Nat → Int32} (h : TX T less price stock worth) {fw reach x y z : Int32} {gains ranks : Nat → Int64} (hs : SHx T fw ranks) {Q : Int32 → Int32 → (Nat → Int64) → (Nat → Int64) → Int32 → Prop} (hQ : ∀ fw gains ranks reach, SHx T fw ranks → Q (iI (a_wage T x.toInt y.toInt z.toInt)) fw gains ranks reach) : wp_X6_wage x y z fw gains ranks reach less price stock worth Q := by
  unfold wp_X6_wage
  unfold a_wage at hQ
  refine sp_X6_isSpan (bz_e (fun hx => ?_) (fun hx => sp_X6_within (bz_n (fun hz => ?_) (fun hz => ?_))))
  · rw [if_neg hx] at hQ; exact hQ _ _ _ _ hs
  · have hz : 0 ≤ z.toInt ∧ z.toInt ≤ 1 := hz
    rw [if_pos hx, if_pos hz] at hQ
    refine sp_X6_market h hs (fun gains ranks reach hr => ⟨(y.toInt - x.toInt + 1).toNat + 1, ?_⟩)
    have loop : ∀ (r : Nat) (s : Int) (o : Option (Int × Int)), s + (r : Int) = y.toInt + 1 → 0 ≤ s → wok o → (∀ fw gains ranks reach, SHx T fw ranks → Q (iI (w2 (wgf T r s o) z.toInt)) fw gains ranks reach) → wl_X6_wage_37 y ranks (fun a b => wx_X6_wage_37 z a b (iI 63) gains ranks reach Q) (r + 1) (iI (e1 o)) (iI (e2 (-6) o)) (iI s) := by
      intro r
      induction r with
      | zero =>
        intro s o hsr h0 ho hq
        show wb_X6_wage_37 _ _ _ _ _ _ _
        unfold wb_X6_wage_37
        refine br_lt y.toInt s rfl (tI (by omega)) (fun _ => ?_) (fun q => absurd q (by omega))
        show wx_X6_wage_37 _ _ _ _ _ _ _ _
        unfold wx_X6_wage_37
        rw [wgf] at hq
        refine br_ne z.toInt 0 rfl rfl (fun g => ?_) (fun g => ?_)
        · cases o with
          | none => exact hq _ _ _ _ (SH63 hr)
          | some p => obtain ⟨b, w⟩ := p; unfold w2 at hq; rw [show (match some (b, w) with | none => (-6 : Int) | some (b, w) => if z.toInt = 0 then b else w) = w from if_neg g] at hq; exact hq _ _ _ _ (SH63 hr)
        · cases o with
          | none => exact hq _ _ _ _ (SH63 hr)
          | some p => obtain ⟨b, w⟩ := p; unfold w2 at hq; rw [show (match some (b, w) with | none => (-6 : Int) | some (b, w) => if z.toInt = 0 then b else w) = b from if_pos g] at hq; exact hq _ _ _ _ (SH63 hr)
      | succ r ih =>
        intro s o hsr h0 ho hq
        have e3 : iI s + 1 = iI (s + 1) := iI_add _ 1
        have hwb := wO_b h.1 s
        have hok := wstep h.1 (s := s) (by omega) ho
        show wb_X6_wage_37 _ _ _ _ _ _ _
        unfold wb_X6_wage_37
        rw [wgf] at hq
        unfold wst at hq hok
        refine br_lt y.toInt s rfl (tI (by omega)) (fun q => absurd q (by omega)) (fun _ => sp_X3_cO h.1 hr ?_)
        rw [tI (by omega)]
        refine bz_e (fun q => nm_r e3 (ih (s + 1) o (by omega) (by omega) ho ?_)) (fun q => sp_X3_wO h.1 hr (by rw [tI (by omega)]; omega) ?_)
        · rw [if_neg q] at hq; exact hq
        · rw [if_pos q] at hq hok
          rw [tI (by omega)]
          cases o with
          | none =>
            refine br_le (wO T s) (-6) (tI (by omega)) (tI (z := -6) (by omega)) (fun g => absurd g (by omega)) (fun g => sp_X3_wO h.1 hr (by rw [tI (by omega)]; omega) ?_)
            rw [tI (by omega)]
            exact nm_r e3 (ih (s + 1) (some (s, wO T s)) (by omega) (by omega) hok hq)
          | some p =>
            obtain ⟨b, w⟩ := p
            have hbw := ho b w rfl
            refine br_le (wO T s) w (tI (by omega)) (tI (z := w) (by omega)) (fun g => ?_) (fun g => sp_X3_wO h.1 hr (by rw [tI (by omega)]; omega) ?_)
            · refine nm_r e3 (ih (s + 1) (some (b, w)) (by omega) (by omega) ho ?_)
              have e : (match some (b, w) with | none => some (s, wO T s) | some (b, w) => if wO T s ≤ w then some (b, w) else some (s, wO T s)) = some (b, w) := if_pos g
              rw [e] at hq; exact hq
            · rw [tI (by omega)]
              have e : (match some (b, w) with | none => some (s, wO T s) | some (b, w) => if wO T s ≤ w then some (b, w) else some (s, wO T s)) = some (s, wO T s) := if_neg (by omega)
              rw [e] at hq hok
              exact nm_r e3 (ih (s + 1) (some (s, wO T s)) (by omega) (by omega) hok hq)
    have := loop (y.toInt - x.toInt + 1).toNat x.toInt none (by omega) hx.1 (fun b w h => by cases h) hQ
    rw [← iI_of x] at this
    exact this
  · have hz : ¬ (0 ≤ z.toInt ∧ z.toInt ≤ 1) := hz
    rw [if_pos hx, if_neg hz] at hQ; exact hQ _ _ _ _ hs
theorem sp_X7_wage {T : Tn} {less price stock worth best many : Nat → Int32} (h : TX T less price stock worth) {x y z : Int32} {Q : Int32 → (Nat → Int32) → (Nat → Int32) → Prop} (hQ : ∀ best many, Q (iI (a_wage T x.toInt y.toInt z.toInt)) best many) : wp_X7_wage x y z best less many price stock worth Q := by
  unfold wp_X7_wage
  unfold a_wage at hQ
  refine sp_X7_isSpan (bz_e (fun hx => ?_) (fun hx => sp_X7_in (bz_n (fun hz => ?_) (fun hz => ?_))))
  · rw [if_neg hx] at hQ; exact hQ _ _
  · have hz : 0 ≤ z.toInt ∧ z.toInt ≤ 1 := hz
    rw [if_pos hx, if_pos hz] at hQ
    refine sp_X7_fillAll h.1 h.2.1 h.2.2.1 h.2.2.2.1 h.2.2.2.2 (fun best many hB => ⟨(y.toInt - x.toInt + 1).toNat + 1, ?_⟩)
    have hb := hB 0 (by omega)
    have loop : ∀ (r : Nat) (s : Int) (o : Option (Int × Int)), s + (r : Int) = y.toInt + 1 → 0 ≤ s → wok o → (∀ best many, Q (iI (w2 (wgf T r s o) z.toInt)) best many) → wl_X7_wage_35 y best (fun a b => wx_X7_wage_35 z a b best many Q) (r + 1) (iI (e1 o)) (iI (e2 (-1) o)) (iI s) := by
      intro r
      induction r with
      | zero =>
        intro s o hsr h0 ho hq
        show wb_X7_wage_35 _ _ _ _ _ _ _
        unfold wb_X7_wage_35
        refine br_lt y.toInt s rfl (tI (by omega)) (fun _ => ?_) (fun q => absurd q (by omega))
        show wx_X7_wage_35 _ _ _ _ _ _
        unfold wx_X7_wage_35
        rw [wgf] at hq
        cases o with
        | none => exact br_lt (-6) 0 (tI (z := -6) (by omega)) rfl (fun _ => hq _ _) (fun q => absurd q (by omega))
        | some p =>
          obtain ⟨b, w⟩ := p
          have hbw := ho b w rfl
          unfold w2 at hq
          refine br_lt b 0 (tI (z := b) (by omega)) rfl (fun q => absurd q (by omega)) (fun _ => br_ne z.toInt 0 rfl rfl (fun g => ?_) (fun g => ?_))
          · rw [show (match some (b, w) with | none => (-6 : Int) | some (b, w) => if z.toInt = 0 then b else w) = w from if_neg g] at hq; exact hq _ _
          · rw [show (match some (b, w) with | none => (-6 : Int) | some (b, w) => if z.toInt = 0 then b else w) = b from if_pos g] at hq; exact hq _ _
      | succ r ih =>
        intro s o hsr h0 ho hq
        have e3 : iI s + 1 = iI (s + 1) := iI_add _ 1
        have hwb := wO_b h.1 s
        have hok := wstep h.1 (s := s) (by omega) ho
        show wb_X7_wage_35 _ _ _ _ _ _ _
        unfold wb_X7_wage_35
        rw [wgf] at hq
        unfold wst at hq hok
        refine br_lt y.toInt s rfl (tI (by omega)) (fun q => absurd q (by omega)) (fun _ => sp_X7_cO h.1 hb ?_)
        rw [tI (by omega)]
        refine bz_e (fun q => nm_r e3 (ih (s + 1) o (by omega) (by omega) ho ?_)) (fun q => ?_)
        · rw [if_neg q] at hq; exact hq
        · rw [if_pos q] at hq hok
          have hin : vp_in (iI s) 7000 := iI_in (by omega) (by omega) (by omega)
          refine ⟨hin, ?_⟩
          rw [iI_cl (by omega) (by omega), MB_w h.1 hb q]
          cases o with
          | none =>
            refine br_le (wO T s) (-1) (tI (by omega)) (tI (z := -1) (by omega)) (fun g => absurd g (by omega)) (fun g => ⟨hin, nm_r rfl ?_⟩)
            exact nm_r e3 (ih (s + 1) (some (s, wO T s)) (by omega) (by omega) hok hq)
          | some p =>
            obtain ⟨b, w⟩ := p
            have hbw := ho b w rfl
            refine br_le (wO T s) w (tI (by omega)) (tI (z := w) (by omega)) (fun g => ?_) (fun g => ⟨hin, nm_r rfl ?_⟩)
            · refine nm_r e3 (ih (s + 1) (some (b, w)) (by omega) (by omega) ho ?_)
              have e : (match some (b, w) with | none => some (s, wO T s) | some (b, w) => if wO T s ≤ w then some (b, w) else some (s, wO T s)) = some (b, w) := if_pos g
              rw [e] at hq; exact hq
            · have e : (match some (b, w) with | none => some (s, wO T s) | some (b, w) => if wO T s ≤ w then some (b, w) else some (s, wO T s)) = some (s, wO T s) := if_neg (by omega)
              rw [e] at hq hok
              exact nm_r e3 (ih (s + 1) (some (s, wO T s)) (by omega) (by omega) hok hq)
    have := loop (y.toInt - x.toInt + 1).toNat x.toInt none (by omega) hx.1 (fun b w h => by cases h) hQ
    rw [← iI_of x] at this
    exact this
  · have hz : ¬ (0 ≤ z.toInt ∧ z.toInt ≤ 1) := hz
    rw [if_pos hx, if_neg hz] at hQ; exact hQ _ _
