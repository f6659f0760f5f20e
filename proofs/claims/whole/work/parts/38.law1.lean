/-! the law: two worlds apart, the class's and the reference's -/
def tw (D : va_G) (cl : List vw_C) (A : Nat → Prop) (X M : va_W) (H : Heap) : Prop := va_P D cl X H ∧ va_P D cl M H ∧ va_D A X ∧ va_D A M ∧ ∀ (i j : Nat) (p q : Nat × va_E), X[i]? = some p → M[j]? = some q → p.1 ≠ q.1
theorem tw.swap {D : va_G} {cl : List vw_C} {A : Nat → Prop} {X M : va_W} {H : Heap} (h : tw D cl A X M H) : tw D cl A M X H := ⟨h.2.1, h.1, h.2.2.2.1, h.2.2.1, fun i j p q hp hq e => h.2.2.2.2 j i q p hq hp e.symm⟩
theorem tw_of {D : va_G} {cl : List vw_C} {A : Nat → Prop} {X M : va_W} {H : Heap} (hP : va_P D cl (X ++ M) H) (hD : va_D A (X ++ M)) : tw D cl A X M H := by
  have l1 : ∀ (i : Nat) (p : Nat × va_E), X[i]? = some p → (X ++ M)[i]? = some p := fun i p h => by
    rw [List.getElem?_append_left (List.getElem?_eq_some_iff.mp h).1]; exact h
  have l2 : ∀ (i : Nat) (p : Nat × va_E), M[i]? = some p → (X ++ M)[X.length + i]? = some p := fun i p h => by
    rw [List.getElem?_append_right (Nat.le_add_right _ _), Nat.add_sub_cancel_left]; exact h
  refine ⟨fun k q h => hP k q (l1 k q h), fun k q h => hP _ q (l2 k q h), ⟨fun i j p q hi hj e => hD.1 i j p q (l1 i p hi) (l1 j q hj) e, fun k q h => hD.2 k q (l1 k q h)⟩, ⟨fun i j p q hi hj e => ?_, fun k q h => hD.2 _ q (l2 k q h)⟩, fun i j p q hi hj e => ?_⟩
  · have := hD.1 _ _ p q (l2 i p hi) (l2 j q hj) e
    omega
  · have h1 := hD.1 _ _ p q (l1 i p hi) (l2 j q hj) e
    have h2 := (List.getElem?_eq_some_iff.mp hi).1
    omega
/-- behind a call on the first world -/
theorem tw_call {D : va_G} {cl : List vw_C} {A : Nat → Prop} {X M wc wr w1 X' : va_W} {H H1 : Heap} (h : tw D cl A X M H) (isC isR isN : List Nat) (hC : isC.map (fun i => X[i]?) = wc.map some) (hR : isR.map (fun i => X[i]?) = wr.map some) (hn : va_nd isR = true) (hdis : ∀ i ∈ isR, i ∉ isC)
    (hN1 : va_nd isN = true) (hN : isN.map (fun i => (wr ++ w1)[i]?) = X'.map some)
    (hk : ∀ q : Nat, q < H.size → ¬ va_A wc H.size q → H1[q]? = H[q]?) (hF : ∀ q, va_A wc H.size q → A q) (hP1 : va_P D cl w1 H1) (hD1 : va_D (va_A wc H.size) w1) : tw D cl A X' M H1 := by
  obtain ⟨hPX, hPM, hDX, hDM, hXM⟩ := h
  obtain ⟨hP, hD⟩ := va_join (wr := wr) (w1 := w1) hPX hDX isC isR hC hR hn hdis hk hF hP1 hD1
  have at' : ∀ {ws : va_W} {is : List Nat} {w : va_W}, is.map (fun i => ws[i]?) = w.map some → ∀ (k : Nat) (q : Nat × va_E), w[k]? = some q → ∃ i, ws[i]? = some q := by
    intro ws is w hs k q hq
    have h1 : (is.map (fun i => ws[i]?))[k]? = some (some q) := by rw [hs, List.getElem?_map, hq]; rfl
    rw [List.getElem?_map] at h1
    cases hi : is[k]? with
    | none => rw [hi] at h1; cases h1
    | some i => rw [hi] at h1; exact ⟨i, Option.some.inj h1⟩
  have hlt : ∀ (j : Nat) (q : Nat × va_E), M[j]? = some q → q.1 < H.size := fun j q hq => (hPM j q hq).lt
  have hnA : ∀ (j : Nat) (q : Nat × va_E), M[j]? = some q → ¬ va_A wc H.size q.1 := by
    intro j q hq h
    rcases h with ⟨k2, e, h⟩ | h
    · obtain ⟨i, hi⟩ := at' hC k2 (q.1, e) h
      exact hXM i j _ _ hi hq rfl
    · have := hlt j q hq
      omega
  refine ⟨fun k q hq => ?_, fun j q hq => (hPM j q hq).kept (hk q.1 (hlt j q hq) (hnA j q hq)), hD.sub isN hN1 hN, hDM, fun i j p q hp hq e => ?_⟩
  · obtain ⟨i, hi⟩ := at' hN k q hq
    exact hP i q hi
  · obtain ⟨i2, hi2⟩ := at' hN i p hp
    by_cases hl : i2 < wr.length
    · rw [List.getElem?_append_left hl] at hi2
      obtain ⟨i3, hi3⟩ := at' hR i2 p hi2
      exact hXM i3 j _ _ hi3 hq e
    · rw [List.getElem?_append_right (by omega)] at hi2
      have := hD1.2 _ p hi2
      rw [e] at this
      exact hnA j q hq this
/-- what holds all through the law -/
def lwC (p : Program) (s : State) (m : MethodId) (meth : Method) (c : Code) (b : Addr) (dC : Nat → ClassId) (dI : Nat → Nat → Nat) (cyI cyJ cyZ cyO : ClassId) : Prop :=
  p.tables.exec = Jvm.exec ∧ c.code = code ∧ c.maxLocals = 4 ∧ s.vm.findClass RL = some m.cls ∧ (∀ w ∈ wsL_law, w.before #[Value.ref b] s = true) ∧ meth.sig.returnType = ret ∧ meth.locks = false ∧ va_K (dC, dI) vwCl (TYS cyI cyJ cyZ cyO) s ∧ nz s ∧ b < s.heap.size
/-! the towns -/
theorem SHx_sm {T T' : Tn} {fw : Int32} {ranks : Nat → Int64} (hP : tP T' = tP T) (hS : tS T' = tS T) (hW : tW T' = tW T) (hL : tL T' = tL T) (h : SHx T fw ranks) : SHx T' fw ranks := by
  obtain ⟨a, b, c, d, e⟩ := T
  obtain ⟨a', b', c', d', e'⟩ := T'
  have h1 : a' = a := hP
  have h2 : b' = b := hS
  have h3 : c' = c := hW
  have h4 : d' = d := hL
  subst h1; subst h2; subst h3; subst h4
  exact h
theorem TYx_sm {T T' : Tn} {ba : Nat → Int32} {co : Int32} (hP : tP T' = tP T) (hS : tS T' = tS T) (hW : tW T' = tW T) (hL : tL T' = tL T) (h : TYx T ba co) : TYx T' ba co := by
  obtain ⟨a, b, c, d, e⟩ := T
  obtain ⟨a', b', c', d', e'⟩ := T'
  have h1 : a' = a := hP
  have h2 : b' = b := hS
  have h3 : c' = c := hW
  have h4 : d' = d := hL
  subst h1; subst h2; subst h3; subst h4
  exact h
theorem TX_sm {T T' : Tn} {l p s w : Nat → Int32} (hk : Tok T') (hP : tP T' = tP T) (hS : tS T' = tS T) (hW : tW T' = tW T) (hL : tL T' = tL T) (h : TX T l p s w) : TX T' l p s w := by
  refine ⟨hk, ?_, ?_, ?_, ?_⟩
  · rw [hP]; exact h.2.1
  · rw [hS]; exact h.2.2.1
  · rw [hW]; exact h.2.2.2.1
  · rw [hL]; exact h.2.2.2.2
theorem sm_purse (T : Tn) (x y : Int) : tP (n_purse T x y) = tP T ∧ tS (n_purse T x y) = tS T ∧ tW (n_purse T x y) = tW T ∧ tL (n_purse T x y) = tL T ∧ sT (n_purse T x y) = sT T ∧ sC (n_purse T x y) = sC T ∧ sH (n_purse T x y) = sH T ∧ sN (n_purse T x y) = sN T := by
  unfold n_purse
  split
  · exact ⟨rfl, rfl, rfl, rfl, rfl, rfl, rfl, rfl⟩
  · exact ⟨rfl, rfl, rfl, rfl, rfl, rfl, rfl, rfl⟩
theorem sm_seen (T : Tn) (x y z : Int) : tP (n_seen T x y z) = tP T ∧ tS (n_seen T x y z) = tS T ∧ tW (n_seen T x y z) = tW T ∧ tL (n_seen T x y z) = tL T ∧ tQ (n_seen T x y z) = tQ T := by
  unfold n_seen
  split
  · exact ⟨rfl, rfl, rfl, rfl, rfl⟩
  · exact ⟨rfl, rfl, rfl, rfl, rfl⟩
theorem sm_thing (T : Tn) (x1 x2 x3 x4 x5 : Int) : tQ (n_thing T x1 x2 x3 x4 x5) = tQ T ∧ sT (n_thing T x1 x2 x3 x4 x5) = sT T ∧ sC (n_thing T x1 x2 x3 x4 x5) = sC T ∧ sH (n_thing T x1 x2 x3 x4 x5) = sH T ∧ sN (n_thing T x1 x2 x3 x4 x5) = sN T := by
  unfold n_thing
  split
  · exact ⟨rfl, rfl, rfl, rfl, rfl⟩
  · exact ⟨rfl, rfl, rfl, rfl, rfl⟩
/-- no sights -/
def n_forget (T : Tn) : Tn := (tP T, tS T, tW T, tL T, tQ T, sT T, sC T, sH T, 0)
theorem Tok_forget {T : Tn} (h : Tok T) : Tok (n_forget T) := ⟨h.1, h.2.1, h.2.2.1, Nat.zero_le 6⟩
theorem TW_thing {T : Tn} {x1 x2 x3 x4 x5 : Int} {l p q c h t s w l' p' s' w' : Nat → Int32} {n : Int32} (hT : TW T l p q c h t n s w) (hX : TX (n_thing T x1 x2 x3 x4 x5) l' p' s' w') : TW (n_thing T x1 x2 x3 x4 x5) l' p' q c h t n s' w' := by
  obtain ⟨e1, e2, e3, e4, e5⟩ := sm_thing T x1 x2 x3 x4 x5
  refine ⟨hX, ?_, ?_, ?_, ?_, ?_⟩
  · unfold pN; rw [e1]; exact hT.2.1
  · rw [e3]; exact hT.2.2.1
  · rw [e4]; exact hT.2.2.2.1
  · rw [e2]; exact hT.2.2.2.2.1
  · rw [e5]; exact hT.2.2.2.2.2
theorem TW_purse {T : Tn} {x y : Int} {l p q q' c h t s w : Nat → Int32} {n : Int32} (hT : TW T l p q c h t n s w) (hk : Tok (n_purse T x y)) (hq : pN q' (n_purse T x y)) : TW (n_purse T x y) l p q' c h t n s w := by
  obtain ⟨e1, e2, e3, e4, e5, e6, e7, e8⟩ := sm_purse T x y
  refine ⟨TX_sm hk e1 e2 e3 e4 hT.1, hq, ?_, ?_, ?_, ?_⟩
  · rw [e6]; exact hT.2.2.1
  · rw [e7]; exact hT.2.2.2.1
  · rw [e5]; exact hT.2.2.2.2.1
  · rw [e8]; exact hT.2.2.2.2.2
theorem TW_seen {T : Tn} {x y z : Int} {l p q c h t c' h' t' s w : Nat → Int32} {n n' : Int32} (hT : TW T l p q c h t n s w) (hk : Tok (n_seen T x y z)) (hg : SG (n_seen T x y z) c' h' t' n') : TW (n_seen T x y z) l p q c' h' t' n' s w := by
  obtain ⟨e1, e2, e3, e4, e5⟩ := sm_seen T x y z
  refine ⟨TX_sm hk e1 e2 e3 e4 hT.1, ?_, hg⟩
  unfold pN; rw [e5]; exact hT.2.1
theorem TW_forget {T : Tn} {l p q c h t s w : Nat → Int32} {n : Int32} (hT : TW T l p q c h t n s w) : TW (n_forget T) l p q c h t 0 s w :=
  ⟨TX_sm (Tok_forget hT.1.1) rfl rfl rfl rfl hT.1, hT.2.1, hT.2.2.1, hT.2.2.2.1, hT.2.2.2.2.1, rfl⟩
/-- the town of a new object -/
def T0 : Tn := (fun _ => 0, fun _ => 0, fun _ => 0, fun _ => 0, fun _ => -1, fun _ => 0, fun _ => 0, fun _ => 0, 0)
theorem T0_ok : Tok T0 := ⟨fun _ _ => ⟨Nat.zero_le _, Nat.zero_le _, Nat.zero_le _, Nat.zero_le _⟩, fun _ _ => by show (-1 : Int) ≤ -1 ∧ (-1 : Int) ≤ 999; omega, fun _ _ => ⟨Nat.zero_le _, Nat.zero_le _, Nat.zero_le _⟩, Nat.zero_le _⟩
theorem T0_W {q : Nat → Int32} (hq : ∀ p, p < 4 → q p = -1) : TW T0 (fun _ => 0) (fun _ => 0) q (fun _ => 0) (fun _ => 0) (fun _ => 0) 0 (fun _ => 0) (fun _ => 0) :=
  ⟨⟨T0_ok, fun _ _ => rfl, fun _ _ => rfl, fun _ _ => rfl, fun _ _ => rfl⟩, fun p hp => (hq p hp).trans (by decide), fun _ _ => rfl, fun _ _ => rfl, fun _ _ => rfl, rfl⟩
def p0 : Pd := (0, fun _ => 0)
theorem p0_ok (sg : Nat → Int32) : PDx p0 0 sg := ⟨rfl, Nat.zero_le _, fun j hj => absurd hj (Nat.not_lt_zero j)⟩
def im0 : Nat → Option Tn := fun _ => none
theorem SH_or {T T' : Tn} {f1 f2 f3 co f1' f2' f3' co' : Int32} {k1 k2 k3 : Nat → Int64} {ba : Nat → Int32} (h : (f1' = f1 ∧ f2' = f2 ∧ f3' = f3 ∧ co' = co ∧ T' = T) ∨ (f1' = iI (-1) ∧ f2' = iI (-1) ∧ f3' = iI (-1) ∧ co' = 0)) (h1 : SHx T f1 k1) (h2 : SHx T f2 k2) (h3 : SHx T f3 k3) (h4 : TYx T ba co) : SHx T' f1' k1 ∧ SHx T' f2' k2 ∧ SHx T' f3' k3 ∧ TYx T' ba co' := by
  rcases h with ⟨e1, e2, e3, e4, e5⟩ | ⟨e1, e2, e3, e4⟩
  · rw [e1, e2, e3, e4, e5]; exact ⟨h1, h2, h3, h4⟩
  · exact ⟨Or.inl e1, Or.inl e2, Or.inl e3, Or.inl e4⟩
/-- the class's world -/
abbrev XWd (cyI cyJ cyZ cyO : ClassId) (a_s a_s_all a_s_all_gains a_s_all_ranks a_s_boundless a_s_boundless_least a_s_first a_s_first_gains a_s_first_ranks a_s_images a_s_images_0 a_s_images_0_less a_s_images_0_price a_s_images_0_purseSum a_s_images_0_sightCount a_s_images_0_sightHow a_s_images_0_sightThing a_s_images_0_stock a_s_images_0_worth a_s_images_1 a_s_images_1_less a_s_images_1_price a_s_images_1_purseSum a_s_images_1_sightCount a_s_images_1_sightHow a_s_images_1_sightThing a_s_images_1_stock a_s_images_1_worth a_s_kept a_s_pad a_s_pad_counts a_s_pad_signs a_s_parting a_s_parting_group a_s_parting_most a_s_second a_s_second_gains a_s_second_ranks a_s_tally a_s_tally_baskets a_s_town a_s_town_less a_s_town_price a_s_town_purseSum a_s_town_sightCount a_s_town_sightHow a_s_town_sightThing a_s_town_stock a_s_town_worth : Nat) (s_all_filledWith : Int32) (s_all_gains : Nat → Int64) (s_all_ranks : Nat → Int64) (s_all_reach : Int32) (s_boundless_divisor : Int32) (s_boundless_least : Nat → Int32) (s_first_filledWith : Int32) (s_first_gains : Nat → Int64) (s_first_ranks : Nat → Int64) (s_first_reach : Int32) (s_images_0_less : Nat → Int32) (s_images_0_price : Nat → Int32) (s_images_0_purseSum : Nat → Int32) (s_images_0_sightCount : Nat → Int32) (s_images_0_sightHow : Nat → Int32) (s_images_0_sightThing : Nat → Int32) (s_images_0_sights : Int32) (s_images_0_stock : Nat → Int32) (s_images_0_worth : Nat → Int32) (s_images_1_less : Nat → Int32) (s_images_1_price : Nat → Int32) (s_images_1_purseSum : Nat → Int32) (s_images_1_sightCount : Nat → Int32) (s_images_1_sightHow : Nat → Int32) (s_images_1_sightThing : Nat → Int32) (s_images_1_sights : Int32) (s_images_1_stock : Nat → Int32) (s_images_1_worth : Nat → Int32) (s_kept : Nat → Int32) (s_pad_counts : Nat → Int32) (s_pad_length : Int32) (s_pad_signs : Nat → Int32) (s_parting_group : Nat → Int32) (s_parting_most : Nat → Int32) (s_parting_present : Int32) (s_second_filledWith : Int32) (s_second_gains : Nat → Int64) (s_second_ranks : Nat → Int64) (s_second_reach : Int32) (s_tally_baskets : Nat → Int32) (s_tally_counted : Int32) (s_town_less : Nat → Int32) (s_town_price : Nat → Int32) (s_town_purseSum : Nat → Int32) (s_town_sightCount : Nat → Int32) (s_town_sightHow : Nat → Int32) (s_town_sightThing : Nat → Int32) (s_town_sights : Int32) (s_town_stock : Nat → Int32) (s_town_worth : Nat → Int32) : va_W := [(a_s, .inr (6, [.ref a_s_town, .ref a_s_pad, .ref a_s_images, .ref a_s_kept, .ref a_s_all, .ref a_s_first, .ref a_s_second, .ref a_s_tally, .ref a_s_boundless, .ref a_s_parting])), (a_s_all, .inr (3, [.ref a_s_all_ranks, .ref a_s_all_gains, .int s_all_filledWith, .int s_all_reach])), (a_s_all_gains, .inl (cyJ, 10, .inr (.inl s_all_gains))), (a_s_all_ranks, .inl (cyJ, 1000, .inr (.inl s_all_ranks))), (a_s_boundless, .inr (0, [.ref a_s_boundless_least, .int s_boundless_divisor])), (a_s_boundless_least, .inl (cyI, 99, .inl s_boundless_least)), (a_s_first, .inr (3, [.ref a_s_first_ranks, .ref a_s_first_gains, .int s_first_filledWith, .int s_first_reach])), (a_s_first_gains, .inl (cyJ, 10, .inr (.inl s_first_gains))), (a_s_first_ranks, .inl (cyJ, 1000, .inr (.inl s_first_ranks))), (a_s_images, .inl (cyO, 2, .inr (.inr (.inr (.inr (va_i2 a_s_images_0 a_s_images_1)))))), (a_s_images_0, .inr (5, [.ref a_s_images_0_price, .ref a_s_images_0_stock, .ref a_s_images_0_worth, .ref a_s_images_0_less, .ref a_s_images_0_purseSum, .ref a_s_images_0_sightThing, .ref a_s_images_0_sightCount, .ref a_s_images_0_sightHow, .int s_images_0_sights])), (a_s_images_0_less, .inl (cyI, 6, .inl s_images_0_less)), (a_s_images_0_price, .inl (cyI, 6, .inl s_images_0_price)), (a_s_images_0_purseSum, .inl (cyI, 4, .inl s_images_0_purseSum)), (a_s_images_0_sightCount, .inl (cyI, 6, .inl s_images_0_sightCount)), (a_s_images_0_sightHow, .inl (cyI, 6, .inl s_images_0_sightHow)), (a_s_images_0_sightThing, .inl (cyI, 6, .inl s_images_0_sightThing)), (a_s_images_0_stock, .inl (cyI, 6, .inl s_images_0_stock)), (a_s_images_0_worth, .inl (cyI, 6, .inl s_images_0_worth)), (a_s_images_1, .inr (5, [.ref a_s_images_1_price, .ref a_s_images_1_stock, .ref a_s_images_1_worth, .ref a_s_images_1_less, .ref a_s_images_1_purseSum, .ref a_s_images_1_sightThing, .ref a_s_images_1_sightCount, .ref a_s_images_1_sightHow, .int s_images_1_sights])), (a_s_images_1_less, .inl (cyI, 6, .inl s_images_1_less)), (a_s_images_1_price, .inl (cyI, 6, .inl s_images_1_price)), (a_s_images_1_purseSum, .inl (cyI, 4, .inl s_images_1_purseSum)), (a_s_images_1_sightCount, .inl (cyI, 6, .inl s_images_1_sightCount)), (a_s_images_1_sightHow, .inl (cyI, 6, .inl s_images_1_sightHow)), (a_s_images_1_sightThing, .inl (cyI, 6, .inl s_images_1_sightThing)), (a_s_images_1_stock, .inl (cyI, 6, .inl s_images_1_stock)), (a_s_images_1_worth, .inl (cyI, 6, .inl s_images_1_worth)), (a_s_kept, .inl (cyZ, 2, .inl s_kept)), (a_s_pad, .inr (1, [.ref a_s_pad_signs, .ref a_s_pad_counts, .int s_pad_length])), (a_s_pad_counts, .inl (cyI, 6, .inl s_pad_counts)), (a_s_pad_signs, .inl (cyI, 40, .inl s_pad_signs)), (a_s_parting, .inr (2, [.ref a_s_parting_most, .ref a_s_parting_group, .int s_parting_present])), (a_s_parting_group, .inl (cyI, 16, .inl s_parting_group)), (a_s_parting_most, .inl (cyI, 16, .inl s_parting_most)), (a_s_second, .inr (3, [.ref a_s_second_ranks, .ref a_s_second_gains, .int s_second_filledWith, .int s_second_reach])), (a_s_second_gains, .inl (cyJ, 10, .inr (.inl s_second_gains))), (a_s_second_ranks, .inl (cyJ, 1000, .inr (.inl s_second_ranks))), (a_s_tally, .inr (4, [.ref a_s_tally_baskets, .int s_tally_counted])), (a_s_tally_baskets, .inl (cyI, 1000, .inl s_tally_baskets)), (a_s_town, .inr (5, [.ref a_s_town_price, .ref a_s_town_stock, .ref a_s_town_worth, .ref a_s_town_less, .ref a_s_town_purseSum, .ref a_s_town_sightThing, .ref a_s_town_sightCount, .ref a_s_town_sightHow, .int s_town_sights])), (a_s_town_less, .inl (cyI, 6, .inl s_town_less)), (a_s_town_price, .inl (cyI, 6, .inl s_town_price)), (a_s_town_purseSum, .inl (cyI, 4, .inl s_town_purseSum)), (a_s_town_sightCount, .inl (cyI, 6, .inl s_town_sightCount)), (a_s_town_sightHow, .inl (cyI, 6, .inl s_town_sightHow)), (a_s_town_sightThing, .inl (cyI, 6, .inl s_town_sightThing)), (a_s_town_stock, .inl (cyI, 6, .inl s_town_stock)), (a_s_town_worth, .inl (cyI, 6, .inl s_town_worth))]
/-- the class's world, and what it says -/
def XI (cyI cyJ cyZ cyO : ClassId) (T : Tn) (pd : Pd) (im : Nat → Option Tn) (a_s : Nat) (X : va_W) : Prop := ∃ (a_s_all a_s_all_gains a_s_all_ranks a_s_boundless a_s_boundless_least a_s_first a_s_first_gains a_s_first_ranks a_s_images a_s_images_0 a_s_images_0_less a_s_images_0_price a_s_images_0_purseSum a_s_images_0_sightCount a_s_images_0_sightHow a_s_images_0_sightThing a_s_images_0_stock a_s_images_0_worth a_s_images_1 a_s_images_1_less a_s_images_1_price a_s_images_1_purseSum a_s_images_1_sightCount a_s_images_1_sightHow a_s_images_1_sightThing a_s_images_1_stock a_s_images_1_worth a_s_kept a_s_pad a_s_pad_counts a_s_pad_signs a_s_parting a_s_parting_group a_s_parting_most a_s_second a_s_second_gains a_s_second_ranks a_s_tally a_s_tally_baskets a_s_town a_s_town_less a_s_town_price a_s_town_purseSum a_s_town_sightCount a_s_town_sightHow a_s_town_sightThing a_s_town_stock a_s_town_worth : Nat) (s_all_filledWith : Int32) (s_all_gains : Nat → Int64) (s_all_ranks : Nat → Int64) (s_all_reach : Int32) (s_boundless_divisor : Int32) (s_boundless_least : Nat → Int32) (s_first_filledWith : Int32) (s_first_gains : Nat → Int64) (s_first_ranks : Nat → Int64) (s_first_reach : Int32) (s_images_0_less : Nat → Int32) (s_images_0_price : Nat → Int32) (s_images_0_purseSum : Nat → Int32) (s_images_0_sightCount : Nat → Int32) (s_images_0_sightHow : Nat → Int32) (s_images_0_sightThing : Nat → Int32) (s_images_0_sights : Int32) (s_images_0_stock : Nat → Int32) (s_images_0_worth : Nat → Int32) (s_images_1_less : Nat → Int32) (s_images_1_price : Nat → Int32) (s_images_1_purseSum : Nat → Int32) (s_images_1_sightCount : Nat → Int32) (s_images_1_sightHow : Nat → Int32) (s_images_1_sightThing : Nat → Int32) (s_images_1_sights : Int32) (s_images_1_stock : Nat → Int32) (s_images_1_worth : Nat → Int32) (s_kept : Nat → Int32) (s_pad_counts : Nat → Int32) (s_pad_length : Int32) (s_pad_signs : Nat → Int32) (s_parting_group : Nat → Int32) (s_parting_most : Nat → Int32) (s_parting_present : Int32) (s_second_filledWith : Int32) (s_second_gains : Nat → Int64) (s_second_ranks : Nat → Int64) (s_second_reach : Int32) (s_tally_baskets : Nat → Int32) (s_tally_counted : Int32) (s_town_less : Nat → Int32) (s_town_price : Nat → Int32) (s_town_purseSum : Nat → Int32) (s_town_sightCount : Nat → Int32) (s_town_sightHow : Nat → Int32) (s_town_sightThing : Nat → Int32) (s_town_sights : Int32) (s_town_stock : Nat → Int32) (s_town_worth : Nat → Int32), X = XWd cyI cyJ cyZ cyO a_s a_s_all a_s_all_gains a_s_all_ranks a_s_boundless a_s_boundless_least a_s_first a_s_first_gains a_s_first_ranks a_s_images a_s_images_0 a_s_images_0_less a_s_images_0_price a_s_images_0_purseSum a_s_images_0_sightCount a_s_images_0_sightHow a_s_images_0_sightThing a_s_images_0_stock a_s_images_0_worth a_s_images_1 a_s_images_1_less a_s_images_1_price a_s_images_1_purseSum a_s_images_1_sightCount a_s_images_1_sightHow a_s_images_1_sightThing a_s_images_1_stock a_s_images_1_worth a_s_kept a_s_pad a_s_pad_counts a_s_pad_signs a_s_parting a_s_parting_group a_s_parting_most a_s_second a_s_second_gains a_s_second_ranks a_s_tally a_s_tally_baskets a_s_town a_s_town_less a_s_town_price a_s_town_purseSum a_s_town_sightCount a_s_town_sightHow a_s_town_sightThing a_s_town_stock a_s_town_worth s_all_filledWith s_all_gains s_all_ranks s_all_reach s_boundless_divisor s_boundless_least s_first_filledWith s_first_gains s_first_ranks s_first_reach s_images_0_less s_images_0_price s_images_0_purseSum s_images_0_sightCount s_images_0_sightHow s_images_0_sightThing s_images_0_sights s_images_0_stock s_images_0_worth s_images_1_less s_images_1_price s_images_1_purseSum s_images_1_sightCount s_images_1_sightHow s_images_1_sightThing s_images_1_sights s_images_1_stock s_images_1_worth s_kept s_pad_counts s_pad_length s_pad_signs s_parting_group s_parting_most s_parting_present s_second_filledWith s_second_gains s_second_ranks s_second_reach s_tally_baskets s_tally_counted s_town_less s_town_price s_town_purseSum s_town_sightCount s_town_sightHow s_town_sightThing s_town_sights s_town_stock s_town_worth ∧ TW T s_town_less s_town_price s_town_purseSum s_town_sightCount s_town_sightHow s_town_sightThing s_town_sights s_town_stock s_town_worth ∧ PDx pd s_pad_length s_pad_signs ∧ SHx T s_all_filledWith s_all_ranks ∧ SHx T s_first_filledWith s_first_ranks ∧ SHx T s_second_filledWith s_second_ranks ∧ TYx T s_tally_baskets s_tally_counted ∧ s_parting_most 0 = 0 ∧ IS (im 0) (s_kept 0) s_images_0_less s_images_0_price s_images_0_purseSum s_images_0_sightCount s_images_0_sightHow s_images_0_sightThing s_images_0_sights s_images_0_stock s_images_0_worth ∧ IS (im 1) (s_kept 1) s_images_1_less s_images_1_price s_images_1_purseSum s_images_1_sightCount s_images_1_sightHow s_images_1_sightThing s_images_1_sights s_images_1_stock s_images_1_worth
/-- the reference's world -/
abbrev MWd (cyI cyJ cyZ cyO : ClassId) (a_s a_s_best a_s_bestWith a_s_firstOut a_s_isKept a_s_kept a_s_less a_s_lies a_s_many a_s_out a_s_pad a_s_price a_s_purse a_s_sightHow a_s_sightMany a_s_sightThing a_s_stock a_s_with a_s_worth : Nat) (s_best : Nat → Int32) (s_bestWith : Nat → Int32) (s_firstOut : Nat → Int32) (s_isKept : Nat → Int32) (s_isWriting : Int32) (s_kept : Nat → Int32) (s_keptAt : Int32) (s_less : Nat → Int32) (s_lies : Nat → Int32) (s_many : Nat → Int32) (s_out : Nat → Int32) (s_pad : Nat → Int32) (s_padMany : Int32) (s_price : Nat → Int32) (s_purse : Nat → Int32) (s_sightHow : Nat → Int32) (s_sightMany : Nat → Int32) (s_sightThing : Nat → Int32) (s_sights : Int32) (s_stock : Nat → Int32) (s_with : Nat → Int32) (s_worth : Nat → Int32) : va_W := [(a_s, .inr (7, [.ref a_s_price, .ref a_s_stock, .ref a_s_worth, .ref a_s_less, .ref a_s_purse, .ref a_s_sightThing, .ref a_s_sightMany, .ref a_s_sightHow, .int s_sights, .ref a_s_pad, .int s_padMany, .ref a_s_lies, .ref a_s_best, .ref a_s_many, .ref a_s_out, .ref a_s_with, .ref a_s_bestWith, .ref a_s_firstOut, .ref a_s_kept, .ref a_s_isKept, .int s_keptAt, .int s_isWriting])), (a_s_best, .inl (cyI, 7000, .inl s_best)), (a_s_bestWith, .inl (cyI, 4, .inl s_bestWith)), (a_s_firstOut, .inl (cyZ, 1000, .inl s_firstOut)), (a_s_isKept, .inl (cyZ, 2, .inl s_isKept)), (a_s_kept, .inl (cyI, 120, .inl s_kept)), (a_s_less, .inl (cyI, 6, .inl s_less)), (a_s_lies, .inl (cyI, 6, .inl s_lies)), (a_s_many, .inl (cyI, 7000, .inl s_many)), (a_s_out, .inl (cyZ, 10000, .inl s_out)), (a_s_pad, .inl (cyI, 40, .inl s_pad)), (a_s_price, .inl (cyI, 6, .inl s_price)), (a_s_purse, .inl (cyI, 4, .inl s_purse)), (a_s_sightHow, .inl (cyI, 6, .inl s_sightHow)), (a_s_sightMany, .inl (cyI, 6, .inl s_sightMany)), (a_s_sightThing, .inl (cyI, 6, .inl s_sightThing)), (a_s_stock, .inl (cyI, 6, .inl s_stock)), (a_s_with, .inl (cyI, 4, .inl s_with)), (a_s_worth, .inl (cyI, 6, .inl s_worth))]
/-- the reference's world, and what it says -/
def MI (cyI cyJ cyZ cyO : ClassId) (T : Tn) (pd : Pd) (im : Nat → Option Tn) (a_s : Nat) (X : va_W) : Prop := ∃ (a_s_best a_s_bestWith a_s_firstOut a_s_isKept a_s_kept a_s_less a_s_lies a_s_many a_s_out a_s_pad a_s_price a_s_purse a_s_sightHow a_s_sightMany a_s_sightThing a_s_stock a_s_with a_s_worth : Nat) (s_best : Nat → Int32) (s_bestWith : Nat → Int32) (s_firstOut : Nat → Int32) (s_isKept : Nat → Int32) (s_isWriting : Int32) (s_kept : Nat → Int32) (s_keptAt : Int32) (s_less : Nat → Int32) (s_lies : Nat → Int32) (s_many : Nat → Int32) (s_out : Nat → Int32) (s_pad : Nat → Int32) (s_padMany : Int32) (s_price : Nat → Int32) (s_purse : Nat → Int32) (s_sightHow : Nat → Int32) (s_sightMany : Nat → Int32) (s_sightThing : Nat → Int32) (s_sights : Int32) (s_stock : Nat → Int32) (s_with : Nat → Int32) (s_worth : Nat → Int32), X = MWd cyI cyJ cyZ cyO a_s a_s_best a_s_bestWith a_s_firstOut a_s_isKept a_s_kept a_s_less a_s_lies a_s_many a_s_out a_s_pad a_s_price a_s_purse a_s_sightHow a_s_sightMany a_s_sightThing a_s_stock a_s_with a_s_worth s_best s_bestWith s_firstOut s_isKept s_isWriting s_kept s_keptAt s_less s_lies s_many s_out s_pad s_padMany s_price s_purse s_sightHow s_sightMany s_sightThing s_sights s_stock s_with s_worth ∧ TW T s_less s_price s_purse s_sightMany s_sightHow s_sightThing s_sights s_stock s_worth ∧ PDx pd s_padMany s_pad ∧ KS (im 0) (s_isKept 0) 0 s_kept ∧ KS (im 1) (s_isKept 1) 60 s_kept
