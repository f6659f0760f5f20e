/-! THE CLAIM OUT OF ONE WALK OF THE LAW'S BODY. Your part is whole_start (and what it stands on); all else here is the same for every law, but numbers. -/
def R_law : String := "EvenPurseLaw"
def lw_P (b : Addr) (xs : List Int32) (args : Array Value) (s : State) : Prop := args = #[.ref b] ∧ s.IntsAt b xs ∧ xs.length ≤ 3072 ∧ (Jvm.Cond.and given_1 narrow_1).before args s = true
def lw_Q (_ : Array Value) (s : State) (o : Outcome) (t : State) : Prop := o = .returned (some (.int 1)) ∧ Framed s o t [] 600000 7302250
def lw_Z (below : List Frame) (a : Array Value) (s : State) : State → Prop := fun t => ∃ o, t.status = .running ∧ Ended t below o ∧ lw_Q a s o t
/-- the law's own end, with 1 on the stack, nothing written that was there before, its room as the claim has it -/
theorem lw_ret {p : Program} {l : Launch} {e : Env} {s : State} {m : MethodId} {below : List Frame} {meth : Method} {c : Code} {b : Nat} (hx : p.tables.exec = Jvm.exec) (hb : c.code = code) (hr : meth.sig.returnType = ret) (hlocks : meth.locks = false) {pc : Nat} {H : Heap} {ls : Array Slot} (hdg : decode code pc = .ok (.ireturn, 1)) : W p l e room_1 s m #[Value.ref b] below meth c H [] 600000 7302250 (lw_Z below #[Value.ref b] s) (F0 m pc ls [.int 1]) := by
  intro T hT X
  obtain ⟨fs, hret, hrun, hended, hW, hframe⟩ := X.leave (v := some (.int 1)) (hlocks := hlocks) (fun h => by rw [hr] at h; cases h)
  have hmeth' : T.vm.method? m = some meth := X.method'
  refine ⟨T.setFrames fs, ?_, .returned (some (.int 1)), hrun, hended, rfl, ⟨_, rfl⟩, hW, hframe⟩
  jvm_step X.here [X.here.top, hx, hb, hdg, hmeth', hr, ret, narrow_b1]
  (try refine ⟨rfl, ?_⟩); (try refine ⟨rfl, ?_⟩)
  first | (intro acts; rw [hret _ acts rfl rfl rfl]) | rw [hret _ _ rfl rfl rfl]
  exact Steps.refl _
/-- what holds at the law's entry: the machine, the code, the tables' words (any of lw_tbl by 'hts w (by decide +kernel)'), the script of L ints xs at the cell b, what the Statement gives of the start (any of its parts by flat_of_before) -/
def lw_At (p : Program) (s : State) (m : MethodId) (meth : Method) (c : Code) (b L : Nat) (xs : Nat → Int32) : Prop :=
  p.tables.exec = Jvm.exec ∧ c.code = code ∧ meth.sig.returnType = ret ∧ c.maxLocals = 4 ∧ s.vm.findClass R_law = some m.cls ∧ (∀ w ∈ lw_tbl, w.before #[Value.ref b] s = true) ∧ va_X b L xs s s.heap ∧ b < s.heap.size ∧ meth.locks = false ∧ (Jvm.Cond.and given_1 narrow_1).before #[Value.ref b] s = true
set_option maxRecDepth 40000 in
theorem lt_cl7 : (.classLink RL 7 RX6 : Cond) ∈ lw_tbl := List.mem_of_getElem? (i := 47) rfl
set_option maxRecDepth 40000 in
theorem lt_cl10 : (.classLink RL 10 RX7 : Cond) ∈ lw_tbl := List.mem_of_getElem? (i := 550) rfl
set_option maxRecDepth 40000 in
theorem lt_iz6 : (.initialized RX6 : Cond) ∈ lw_tbl := List.mem_of_getElem? (i := 36) rfl
set_option maxRecDepth 40000 in
theorem lt_iz7 : (.initialized RX7 : Cond) ∈ lw_tbl := List.mem_of_getElem? (i := 44) rfl
set_option maxRecDepth 40000 in
theorem lt_ml9 : (.methodLink RL 9 yX6_init : Cond) ∈ lw_tbl := List.mem_of_getElem? (i := 49) rfl
set_option maxRecDepth 40000 in
theorem lt_ml12 : (.methodLink RL 12 yX7_init : Cond) ∈ lw_tbl := List.mem_of_getElem? (i := 552) rfl
set_option maxRecDepth 40000 in
theorem lt_im6 : (.instanceMethod yX6_init : Cond) ∈ lw_tbl := List.mem_of_getElem? (i := 50) rfl
set_option maxRecDepth 40000 in
theorem lt_im7 : (.instanceMethod yX7_init : Cond) ∈ lw_tbl := List.mem_of_getElem? (i := 553) rfl
set_option maxRecDepth 40000 in
theorem lt_acI : (.arrayClass .int : Cond) ∈ lw_tbl := List.mem_of_getElem? (i := 103) rfl
set_option maxRecDepth 40000 in
theorem lt_acJ : (.arrayClass .long : Cond) ∈ lw_tbl := List.mem_of_getElem? (i := 142) rfl
set_option maxRecDepth 40000 in
theorem lt_acZ : (.arrayClass .boolean : Cond) ∈ lw_tbl := List.mem_of_getElem? (i := 141) rfl
set_option maxRecDepth 40000 in
theorem lt_in0 : (.instantiable RX0 2 : Cond) ∈ lw_tbl := List.mem_of_getElem? (i := 157) rfl
set_option maxRecDepth 40000 in
theorem lt_in1 : (.instantiable RX1 3 : Cond) ∈ lw_tbl := List.mem_of_getElem? (i := 105) rfl
set_option maxRecDepth 40000 in
theorem lt_in2 : (.instantiable RX2 3 : Cond) ∈ lw_tbl := List.mem_of_getElem? (i := 170) rfl
set_option maxRecDepth 40000 in
theorem lt_in3 : (.instantiable RX3 4 : Cond) ∈ lw_tbl := List.mem_of_getElem? (i := 123) rfl
set_option maxRecDepth 40000 in
theorem lt_in4 : (.instantiable RX4 2 : Cond) ∈ lw_tbl := List.mem_of_getElem? (i := 144) rfl
set_option maxRecDepth 40000 in
theorem lt_in5 : (.instantiable RX5 9 : Cond) ∈ lw_tbl := List.mem_of_getElem? (i := 56) rfl
set_option maxRecDepth 40000 in
theorem lt_in6 : (.instantiable RX6 10 : Cond) ∈ lw_tbl := List.mem_of_getElem? (i := 48) rfl
set_option maxRecDepth 40000 in
theorem lt_in7 : (.instantiable RX7 22 : Cond) ∈ lw_tbl := List.mem_of_getElem? (i := 551) rfl
set_option maxRecDepth 40000 in
theorem lt_ao : (.arrayOver (.object RX5) : Cond) ∈ lw_tbl := List.mem_of_getElem? (i := 121) rfl
set_option maxRecDepth 40000 in
theorem lt_nN : ∀ w ∈ nN, w ∈ lw_tbl := mem_fm [65, 66, 67, 68, 70, 71, 72, 73, 77, 78, 83, 106, 113, 124, 145, 158, 171, 267, 308, 448] rfl
set_option maxHeartbeats 4000000 in
set_option maxRecDepth 100000 in
theorem law_loop {p : Program} {l : Launch} {e : Env} {s : State} {m : MethodId} {below : List Frame} {meth : Method} {c : Code} {b : Addr} {dC : Nat → ClassId} {dI : Nat → Nat → Nat} {cyI cyJ cyZ cyO : ClassId} {L : Nat} {xs : Nat → Int32} (hL : L ≤ 3072) (C0 : lwC p s m meth c b dC dI cyI cyJ cyZ cyO) (hX9 : va_X b L xs s s.heap) {x mm : Nat} : ∀ (n i : Nat), i ≤ L → L < i + n → ∀ (T : Tn) (pd : Pd) (im : Nat → Option Tn) (X M : va_W) (H : Heap) (locs : List Loc) (ls : Array Slot), XIv cyI cyJ cyZ cyO T pd im x X → MIv cyI cyJ cyZ cyO T pd im mm M → tw (dC, dI) vwCl (fun q : Nat => s.heap.size ≤ q) X M H → va_S (fun q : Nat => s.heap.size ≤ q) s.heap H locs → lv_has ls 4 [(0, .ref b), (1, .ref x), (2, .ref mm), (3, .int (nI i))] → W p l e room_1 s m #[Value.ref b] below meth c H locs 68 29652 (lw_Z below #[Value.ref b] s) (F0 m 18 ls []) := by
  obtain ⟨hx, hb, hml, hown, hts, hr, hlocks, hK, hN, hbl⟩ := id C0
  have hbA : ¬ (fun q : Nat => s.heap.size ≤ q) b := Nat.not_le.mpr hbl
  intro n
  induction n with
  | zero => intro i h1 h2; exact absurd h2 (by omega)
  | succ n ih =>
    intro i h1 h3 T pd im X M H locs ls hXI hMI h2 hS hl
    refine lv_iload_n hx hb dL_law_18 rfl (lv_at hl 3 rfl) ?_
    refine lv_aload_n hx hb dL_law_19 rfl (lv_at hl 0 rfl) ?_
    refine va_slen hx hb hX9 hbl hbA hS dL_law_20 ?_
    refine lv_bipush (v := 6) hx hb dL_law_21 (by decide) ?_
    refine lv_isub hx hb dL_law_23 ?_
    refine lv_icmp_gt (tgt := 946) hx hb dL_law_24 (by decide) (fun _ => ?_) (fun h => ?_)
    · refine lv_iconst (v := 1) hx hb dL_law_946 (by decide) ?_
      refine va_forget (fun q hq => hS.2.2 q hq) ?_
      refine W.widen (k := 600000) (n := 7302250) (Nat.le_of_ble_eq_true rfl) (Nat.le_of_ble_eq_true rfl) ?_
      exact lw_ret hx hb hr hlocks dL_law_947
    · have hi := le6 h1 hL h
      refine lv_aload_n hx hb dL_law_27 rfl (lv_at hl 0 rfl) ?_
      refine lv_iload_n hx hb dL_law_28 rfl (lv_at hl 3 rfl) ?_
      refine va_sld hx hb hX9 hbl hbA hS (vp_in_nI (by omega) (by omega)) dL_law_29 ?_
      refine lv_bipush (v := 31) hx hb dL_law_30 (by decide) ?_
      refine lv_iand hx hb dL_law_32 ?_
      obtain ⟨k, hk, ek⟩ := and31 (xs (nI i).toNatClampNeg)
      rw [ek]
      have ekI : (nI k).toInt = (k : Int) := nI_toInt (by omega)
      have hend : ∀ (T : Tn) (pd : Pd) (im : Nat → Option Tn) (X M : va_W) (H : Heap) (locs : List Loc), XIv cyI cyJ cyZ cyO T pd im x X → MIv cyI cyJ cyZ cyO T pd im mm M → tw (dC, dI) vwCl (fun q : Nat => s.heap.size ≤ q) X M H → va_S (fun q : Nat => s.heap.size ≤ q) s.heap H locs → W p l e room_1 s m #[Value.ref b] below meth c H locs 68 29652 (lw_Z below #[Value.ref b] s) (F0 m 940 ls []) := by
        intro T pd im X M H locs hXI hMI h2 hS
        refine lv_iinc (v := nI (i + 6)) (lv' := [(3, .int (nI (i + 6))), (0, .ref b), (1, .ref x), (2, .ref mm)]) hx hb dL_law_940 hl (k := 3) rfl (by rw [← nI_add]; rfl) (by decide) rfl (fun ls hl => ?_)
        refine lv_goto (tgt := 18) hx hb dL_law_943 (by decide) ?_
        exact ih (i + 6) hi (by omega) T pd im X M H locs ls hXI hMI h2 hS (lv_sub hl [1, 2, 3, 0] rfl)
      by_cases h26 : 26 ≤ k
      · refine lv_tableOut (tgt := 940) hx hb dL_law_33 (Or.inr (by rw [ekI]; omega)) (by decide) ?_
        exact hend T pd im X M H locs hXI hMI h2 hS
      · have h1n : ¬ (nI k).toInt < 0 := by rw [ekI]; omega
        have h2n : ¬ 25 < (nI k).toInt := by rw [ekI]; omega
        rcases (show k = 0 ∨ k = 1 ∨ k = 2 ∨ k = 3 ∨ k = 4 ∨ k = 5 ∨ k = 6 ∨ k = 7 ∨ k = 8 ∨ k = 9 ∨ k = 10 ∨ k = 11 ∨ k = 12 ∨ k = 13 ∨ k = 14 ∨ k = 15 ∨ k = 16 ∨ k = 17 ∨ k = 18 ∨ k = 19 ∨ k = 20 ∨ k = 21 ∨ k = 22 ∨ k = 23 ∨ k = 24 ∨ k = 25 by omega) with hk9 | hk9 | hk9 | hk9 | hk9 | hk9 | hk9 | hk9 | hk9 | hk9 | hk9 | hk9 | hk9 | hk9 | hk9 | hk9 | hk9 | hk9 | hk9 | hk9 | hk9 | hk9 | hk9 | hk9 | hk9 | hk9
        · subst hk9
          refine lv_tableIn (off := 119) (tgt := 152) hx hb dL_law_33 h1n h2n (by rw [ekI]; rfl) (by decide) ?_
          exact lk_thing C0 hX9 hL hi hXI hMI h2 hS hl hend
        · subst hk9
          refine lv_tableIn (off := 182) (tgt := 215) hx hb dL_law_33 h1n h2n (by rw [ekI]; rfl) (by decide) ?_
          exact lk_say C0 hX9 hL hi hXI hMI h2 hS hl hend
        · subst hk9
          refine lv_tableIn (off := 205) (tgt := 238) hx hb dL_law_33 h1n h2n (by rw [ekI]; rfl) (by decide) ?_
          exact lk_wipe C0 hX9 hL hi hXI hMI h2 hS hl hend
        · subst hk9
          refine lv_tableIn (off := 218) (tgt := 251) hx hb dL_law_33 h1n h2n (by rw [ekI]; rfl) (by decide) ?_
          exact lk_fault C0 hX9 hL hi hXI hMI h2 hS hl hend
        · subst hk9
          refine lv_tableIn (off := 231) (tgt := 264) hx hb dL_law_33 h1n h2n (by rw [ekI]; rfl) (by decide) ?_
          exact lk_basket C0 hX9 hL hi hXI hMI h2 hS hl hend
        · subst hk9
          refine lv_tableIn (off := 254) (tgt := 287) hx hb dL_law_33 h1n h2n (by rw [ekI]; rfl) (by decide) ?_
          exact lk_ways C0 hX9 hL hi hXI hMI h2 hS hl hend
        · subst hk9
          refine lv_tableIn (off := 277) (tgt := 310) hx hb dL_law_33 h1n h2n (by rw [ekI]; rfl) (by decide) ?_
          exact lk_best C0 hX9 hL hi hXI hMI h2 hS hl hend
        · subst hk9
          refine lv_tableIn (off := 310) (tgt := 343) hx hb dL_law_33 h1n h2n (by rw [ekI]; rfl) (by decide) ?_
          exact lk_stuck C0 hX9 hL hi hXI hMI h2 hS hl hend
        · subst hk9
          refine lv_tableIn (off := 353) (tgt := 386) hx hb dL_law_33 h1n h2n (by rw [ekI]; rfl) (by decide) ?_
          exact lk_near C0 hX9 hL hi hXI hMI h2 hS hl hend
        · subst hk9
          refine lv_tableIn (off := 386) (tgt := 419) hx hb dL_law_33 h1n h2n (by rw [ekI]; rfl) (by decide) ?_
          exact lk_endless C0 hX9 hL hi hXI hMI h2 hS hl hend
        · subst hk9
          refine lv_tableIn (off := 409) (tgt := 442) hx hb dL_law_33 h1n h2n (by rw [ekI]; rfl) (by decide) ?_
          exact lk_pins C0 hX9 hL hi hXI hMI h2 hS hl hend
        · subst hk9
          refine lv_tableIn (off := 432) (tgt := 465) hx hb dL_law_33 h1n h2n (by rw [ekI]; rfl) (by decide) ?_
          exact lk_weeks C0 hX9 hL hi hXI hMI h2 hS hl hend
        · subst hk9
          refine lv_tableIn (off := 465) (tgt := 498) hx hb dL_law_33 h1n h2n (by rw [ekI]; rfl) (by decide) ?_
          exact lk_purse C0 hX9 hL hi hXI hMI h2 hS hl hend
        · subst hk9
          refine lv_tableIn (off := 498) (tgt := 531) hx hb dL_law_33 h1n h2n (by rw [ekI]; rfl) (by decide) ?_
          exact lk_together C0 hX9 hL hi hXI hMI h2 hS hl hend
        · subst hk9
          refine lv_tableIn (off := 521) (tgt := 554) hx hb dL_law_33 h1n h2n (by rw [ekI]; rfl) (by decide) ?_
          exact lk_pays C0 hX9 hL hi hXI hMI h2 hS hl hend
        · subst hk9
          refine lv_tableIn (off := 554) (tgt := 587) hx hb dL_law_33 h1n h2n (by rw [ekI]; rfl) (by decide) ?_
          exact lk_wage C0 hX9 hL hi hXI hMI h2 hS hl hend
        · subst hk9
          refine lv_tableIn (off := 597) (tgt := 630) hx hb dL_law_33 h1n h2n (by rw [ekI]; rfl) (by decide) ?_
          exact lk_priced C0 hX9 hL hi hXI hMI h2 hS hl hend
        · subst hk9
          refine lv_tableIn (off := 630) (tgt := 663) hx hb dL_law_33 h1n h2n (by rw [ekI]; rfl) (by decide) ?_
          exact lk_penny C0 hX9 hL hi hXI hMI h2 hS hl hend
        · subst hk9
          refine lv_tableIn (off := 673) (tgt := 706) hx hb dL_law_33 h1n h2n (by rw [ekI]; rfl) (by decide) ?_
          exact lk_seen C0 hX9 hL hi hXI hMI h2 hS hl hend
        · subst hk9
          refine lv_tableIn (off := 716) (tgt := 749) hx hb dL_law_33 h1n h2n (by rw [ekI]; rfl) (by decide) ?_
          exact lk_forget C0 hX9 hL hi hXI hMI h2 hS hl hend
        · subst hk9
          refine lv_tableIn (off := 729) (tgt := 762) hx hb dL_law_33 h1n h2n (by rw [ekI]; rfl) (by decide) ?_
          exact lk_fits C0 hX9 hL hi hXI hMI h2 hS hl hend
        · subst hk9
          refine lv_tableIn (off := 772) (tgt := 805) hx hb dL_law_33 h1n h2n (by rw [ekI]; rfl) (by decide) ?_
          exact lk_row C0 hX9 hL hi hXI hMI h2 hS hl hend
        · subst hk9
          refine lv_tableIn (off := 795) (tgt := 828) hx hb dL_law_33 h1n h2n (by rw [ekI]; rfl) (by decide) ?_
          exact lk_year C0 hX9 hL hi hXI hMI h2 hS hl hend
        · subst hk9
          refine lv_tableIn (off := 838) (tgt := 871) hx hb dL_law_33 h1n h2n (by rw [ekI]; rfl) (by decide) ?_
          exact lk_image C0 hX9 hL hi hXI hMI h2 hS hl hend
        · subst hk9
          refine lv_tableIn (off := 861) (tgt := 894) hx hb dL_law_33 h1n h2n (by rw [ekI]; rfl) (by decide) ?_
          exact lk_restore C0 hX9 hL hi hXI hMI h2 hS hl hend
        · subst hk9
          refine lv_tableIn (off := 884) (tgt := 917) hx hb dL_law_33 h1n h2n (by rw [ekI]; rfl) (by decide) ?_
          exact lk_told C0 hX9 hL hi hXI hMI h2 hS hl hend
/-- the town of a new object of the reference's -/
theorem up4 : ∀ p, p < 4 → (upd (upd (upd (upd (fun _ => 0) (Int32.toNatClampNeg 0) (-1)) (Int32.toNatClampNeg 1) (-1)) (Int32.toNatClampNeg 2) (-1)) (Int32.toNatClampNeg 3) (-1)) p = (-1 : Int32) := by
  intro p hp
  rcases (show p = 0 ∨ p = 1 ∨ p = 2 ∨ p = 3 by omega) with h | h | h | h <;> subst h <;> rfl
set_option maxHeartbeats 8000000 in
set_option maxRecDepth 100000 in
/-- THE LAW, from its entry -/
theorem whole_start {p : Program} {e : Env} {s : State} {m : MethodId} {below : List Frame} {meth : Method} {c : Code} (l : Launch) (hflags : l.flags = flags0) {b L : Nat} {xs : Nat → Int32} (hL : L ≤ 3072) (C0 : lw_At p s m meth c b L xs) : W p l e room_1 s m #[Value.ref b] below meth c s.heap [] 0 0 (lw_Z below #[Value.ref b] s) (entryFrame m ([Value.ref b] : List Value).toArray 4) := by
  obtain ⟨hx, hb, hr, hml, hown, hts, hX, hbl, hlocks, hgv⟩ := id C0
  have hown : s.vm.findClass RL = some m.cls := hown
  have hA : ∀ q : Nat, s.heap.size ≤ q → (fun q : Nat => s.heap.size ≤ q) q := fun _ h => h
  obtain ⟨k0, iS0, hKn0⟩ := u_known (C := RX0) (T := TX0) (N := 2) (n := 2) hts inX0 (hts _ lt_in0)
  obtain ⟨k1, iS1, hKn1⟩ := u_known (C := RX1) (T := TX1) (N := 3) (n := 3) hts inX1 (hts _ lt_in1)
  obtain ⟨k2, iS2, hKn2⟩ := u_known (C := RX2) (T := TX2) (N := 3) (n := 3) hts inX2 (hts _ lt_in2)
  obtain ⟨k3, iS3, hKn3⟩ := u_known (C := RX3) (T := TX3) (N := 4) (n := 4) hts inX3 (hts _ lt_in3)
  obtain ⟨k4, iS4, hKn4⟩ := u_known (C := RX4) (T := TX4) (N := 2) (n := 2) hts inX4 (hts _ lt_in4)
  obtain ⟨k5, iS5, hKn5⟩ := u_known (C := RX5) (T := TX5) (N := 9) (n := 9) hts inX5 (hts _ lt_in5)
  obtain ⟨k6, iS6, hKn6⟩ := u_known (C := RX6) (T := TX6) (N := 10) (n := 10) hts inX6 (hts _ lt_in6)
  obtain ⟨k7, iS7, hKn7⟩ := u_known (C := RX7) (T := TX7) (N := 22) (n := 22) hts inX7 (hts _ lt_in7)
  obtain ⟨dC, dI, hKc⟩ : ∃ (dC : Nat → ClassId) (dI : Nat → Nat → Nat), ∀ (k : Nat) (q : vw_C), vwCl[k]? = some q → u_Kn s q.1 q.2.1 q.2.2 (dC k) (dI k) := by
    refine ⟨fun k => if k = 0 then k0 else if k = 1 then k1 else if k = 2 then k2 else if k = 3 then k3 else if k = 4 then k4 else if k = 5 then k5 else if k = 6 then k6 else k7, fun k => if k = 0 then iS0 else if k = 1 then iS1 else if k = 2 then iS2 else if k = 3 then iS3 else if k = 4 then iS4 else if k = 5 then iS5 else if k = 6 then iS6 else iS7, ?_⟩
    intro k q hq
    match k, hq with
    | 0, hq => cases hq; exact hKn0
    | 1, hq => cases hq; exact hKn1
    | 2, hq => cases hq; exact hKn2
    | 3, hq => cases hq; exact hKn3
    | 4, hq => cases hq; exact hKn4
    | 5, hq => cases hq; exact hKn5
    | 6, hq => cases hq; exact hKn6
    | 7, hq => cases hq; exact hKn7
    | k + 8, hq => simp at hq
  obtain ⟨cyI, kI, cpI, i1, i2, i3⟩ := Cond.arrayClass_spec (hts _ lt_acI)
  obtain ⟨cyJ, kJ, cpJ, j1, j2, j3⟩ := Cond.arrayClass_spec (hts _ lt_acJ)
  obtain ⟨cyZ, kZ, cpZ, z1, z2, z3⟩ := Cond.arrayClass_spec (hts _ lt_acZ)
  have hAO : va_AO RX5 s := va_AO.of (hts _ lt_ao)
  obtain ⟨cpO, cyO, kO, o1, o2, o3, o4, o5⟩ := Cond.arrayOver_spec (hts _ lt_ao)
  have hK : va_K (dC, dI) vwCl (TYS cyI cyJ cyZ cyO) s := by
    refine ⟨hKc, fun k q hq => ?_⟩
    match k, hq with
    | 0, hq => cases hq; exact ⟨fun n z => ⟨fun k h => (by cases h), kI, i2, cpI, i3⟩, i1⟩
    | 1, hq => cases hq; exact ⟨fun n z => ⟨fun k h => (by cases h), kJ, j2, cpJ, j3⟩, j1⟩
    | 2, hq => cases hq; exact ⟨fun n z => ⟨fun k h => (by cases h), kZ, z2, cpZ, z3⟩, z1⟩
    | 3, hq => cases hq; exact ⟨fun n z => ⟨fun k h => (by cases h), kO, o3, cpO, o4⟩, kO, cpO, o3, o4, o1, o5⟩
    | k + 4, hq => simp [TYS] at hq
  have hN : nz s := fun w hw => va_Nw.of (nN_tab w hw) (hts w (lt_nN w hw))
  have htsL : ∀ w ∈ wsL_law, w.before #[Value.ref b] s = true := fun w hw => hts w (wsL_law_in w hw)
  have C9 : lwC p s m meth c b dC dI cyI cyJ cyZ cyO := ⟨hx, hb, hml, hown, htsL, hr, hlocks, hK, hN, hbl⟩
  have hS : va_S (fun q : Nat => s.heap.size ≤ q) s.heap s.heap [] := va_S.rf
  have hP : va_P (dC, dI) vwCl [] s.heap := fun k q h => by simp at h
  have hD : va_D (fun q : Nat => s.heap.size ≤ q) [] := ⟨fun i j p q h => by simp at h, fun k q h => by simp at h⟩
  have hl := lv_entry ([.ref b]) (n := 4) (Nat.le_of_ble_eq_true rfl)
  rw [lg_entry_eq]
  generalize (lg_sl ([.ref b]) ++ List.replicate (4 - (lg_sl ([.ref b])).length) Slot.unset).toArray = ls at hl ⊢
  have hl : lv_has ls 4 [(0, .ref b)] := hl
  refine va_new (D := (dC, dI)) (ci := 6) (fs := [.null, .null, .null, .null, .null, .null, .null, .null, .null, .null]) (C := RX6) (T := TX6) (N := 10) hx hb hts inX6 tyX6 tyX6_ok hown (hts _ lt_cl7) (hts _ lt_in6) (hts _ lt_iz6) hK hP hD hS hA rfl (fun j hj => by rcases (show j = 0 ∨ j = 1 ∨ j = 2 ∨ j = 3 ∨ j = 4 ∨ j = 5 ∨ j = 6 ∨ j = 7 ∨ j = 8 ∨ j = 9 by omega) with rfl | rfl | rfl | rfl | rfl | rfl | rfl | rfl | rfl | rfl <;> rfl) (Nat.le_of_ble_eq_true rfl) (Nat.le_of_ble_eq_true rfl) dL_law_0 (fun ax H hP hD hS => ?_)
  have hP : va_P (dC, dI) vwCl [(ax, .inr (6, [.null, .null, .null, .null, .null, .null, .null, .null, .null, .null]))] H := hP
  have hD : va_D (fun q : Nat => s.heap.size ≤ q) [(ax, .inr (6, [.null, .null, .null, .null, .null, .null, .null, .null, .null, .null]))] := hD
  refine W.widen (k := 1) (n := 10) (Nat.le_of_ble_eq_true rfl) (Nat.le_of_ble_eq_true rfl) ?_
  refine lv_dup hx hb dL_law_3 rfl ?_
  have hFc := va_free (wc := [(ax, .inr (6, [.null, .null, .null, .null, .null, .null, .null, .null, .null, .null]))]) hD hS hA [0] rfl
  refine va_callv (va_runI (As := []) (rest := [.ref ax]) ⟨hx, hb, hml, hown, htsL⟩ (c_X6_init l dC dI cyI cyJ cyZ cyO ax H.size) (cwI 0 htsL gL_law_X6_init rfl rfl rfl (hts _ lt_iz6) (hts _ lt_ml9) (hts _ lt_im6) rfl (by decide +kernel) ⟨Nat.le_of_ble_eq_true rfl, Nat.le_of_ble_eq_true rfl⟩) ⟨fun a U g mk q => by
      obtain ⟨q0, ⟨q1, qP, qK, qN, qD⟩, qA⟩ := q
      exact ⟨q0, ⟨q1, qP, va_K.moved (u := U) (U := U.calling g mk a) (Vm.Alike.refl U.vm) qK, nz.same (u := U) (U := U.calling g mk a) rfl qN, qD⟩, va_AO.moved (u := U) (U := U.calling g mk a) (Vm.Alike.refl U.vm) qA⟩, fun U hU hW => ⟨rfl, px_of hK hN hP hD U hU hW, va_AO.moved hW.alike hAO⟩⟩ rfl rfl hl.1 rfl (lv_room (Nat.le_of_ble_eq_true rfl)) dL_law_4 ⟨Nat.le_of_ble_eq_true rfl, Nat.le_of_ble_eq_true rfl⟩) hS (fun q _ h => hFc q h) hFc (fun u t H1 locs ht hvm hw hB hz1 hk1 hS => ?_)
  obtain ⟨ax_all, ax_all_gains, ax_all_ranks, ax_boundless, ax_boundless_least, ax_first, ax_first_gains, ax_first_ranks, ax_images, ax_images_0, ax_images_0_less, ax_images_0_price, ax_images_0_purseSum, ax_images_0_sightCount, ax_images_0_sightHow, ax_images_0_sightThing, ax_images_0_stock, ax_images_0_worth, ax_images_1, ax_images_1_less, ax_images_1_price, ax_images_1_purseSum, ax_images_1_sightCount, ax_images_1_sightHow, ax_images_1_sightThing, ax_images_1_stock, ax_images_1_worth, ax_kept, ax_pad, ax_pad_counts, ax_pad_signs, ax_parting, ax_parting_group, ax_parting_most, ax_second, ax_second_gains, ax_second_ranks, ax_tally, ax_tally_baskets, ax_town, ax_town_less, ax_town_price, ax_town_purseSum, ax_town_sightCount, ax_town_sightHow, ax_town_sightThing, ax_town_stock, ax_town_worth, hP1, hD1⟩ := hB
  rw [ht] at hP1
  obtain ⟨hP, hD⟩ := va_join (wr := []) (w1 := [(ax, .inr (6, [.ref ax_town, .ref ax_pad, .ref ax_images, .ref ax_kept, .ref ax_all, .ref ax_first, .ref ax_second, .ref ax_tally, .ref ax_boundless, .ref ax_parting])), (ax_all, .inr (3, [.ref ax_all_ranks, .ref ax_all_gains, .int (-1), .int 0])), (ax_all_gains, .inl (cyJ, 10, .inr (.inl (fun _ => 0)))), (ax_all_ranks, .inl (cyJ, 1000, .inr (.inl (fun _ => 0)))), (ax_boundless, .inr (0, [.ref ax_boundless_least, .int 0])), (ax_boundless_least, .inl (cyI, 99, .inl (fun _ => 0))), (ax_first, .inr (3, [.ref ax_first_ranks, .ref ax_first_gains, .int (-1), .int 0])), (ax_first_gains, .inl (cyJ, 10, .inr (.inl (fun _ => 0)))), (ax_first_ranks, .inl (cyJ, 1000, .inr (.inl (fun _ => 0)))), (ax_images, .inl (cyO, 2, .inr (.inr (.inr (.inr (va_i2 ax_images_0 ax_images_1)))))), (ax_images_0, .inr (5, [.ref ax_images_0_price, .ref ax_images_0_stock, .ref ax_images_0_worth, .ref ax_images_0_less, .ref ax_images_0_purseSum, .ref ax_images_0_sightThing, .ref ax_images_0_sightCount, .ref ax_images_0_sightHow, .int 0])), (ax_images_0_less, .inl (cyI, 6, .inl (fun _ => 0))), (ax_images_0_price, .inl (cyI, 6, .inl (fun _ => 0))), (ax_images_0_purseSum, .inl (cyI, 4, .inl (fun j => if j < 4 then (-1) else (fun _ => 0) j))), (ax_images_0_sightCount, .inl (cyI, 6, .inl (fun _ => 0))), (ax_images_0_sightHow, .inl (cyI, 6, .inl (fun _ => 0))), (ax_images_0_sightThing, .inl (cyI, 6, .inl (fun _ => 0))), (ax_images_0_stock, .inl (cyI, 6, .inl (fun _ => 0))), (ax_images_0_worth, .inl (cyI, 6, .inl (fun _ => 0))), (ax_images_1, .inr (5, [.ref ax_images_1_price, .ref ax_images_1_stock, .ref ax_images_1_worth, .ref ax_images_1_less, .ref ax_images_1_purseSum, .ref ax_images_1_sightThing, .ref ax_images_1_sightCount, .ref ax_images_1_sightHow, .int 0])), (ax_images_1_less, .inl (cyI, 6, .inl (fun _ => 0))), (ax_images_1_price, .inl (cyI, 6, .inl (fun _ => 0))), (ax_images_1_purseSum, .inl (cyI, 4, .inl (fun j => if j < 4 then (-1) else (fun _ => 0) j))), (ax_images_1_sightCount, .inl (cyI, 6, .inl (fun _ => 0))), (ax_images_1_sightHow, .inl (cyI, 6, .inl (fun _ => 0))), (ax_images_1_sightThing, .inl (cyI, 6, .inl (fun _ => 0))), (ax_images_1_stock, .inl (cyI, 6, .inl (fun _ => 0))), (ax_images_1_worth, .inl (cyI, 6, .inl (fun _ => 0))), (ax_kept, .inl (cyZ, 2, .inl (fun _ => 0))), (ax_pad, .inr (1, [.ref ax_pad_signs, .ref ax_pad_counts, .int 0])), (ax_pad_counts, .inl (cyI, 6, .inl (fun _ => 0))), (ax_pad_signs, .inl (cyI, 40, .inl (fun _ => 0))), (ax_parting, .inr (2, [.ref ax_parting_most, .ref ax_parting_group, .int 0])), (ax_parting_group, .inl (cyI, 16, .inl (fun _ => 0))), (ax_parting_most, .inl (cyI, 16, .inl (fun _ => 0))), (ax_second, .inr (3, [.ref ax_second_ranks, .ref ax_second_gains, .int (-1), .int 0])), (ax_second_gains, .inl (cyJ, 10, .inr (.inl (fun _ => 0)))), (ax_second_ranks, .inl (cyJ, 1000, .inr (.inl (fun _ => 0)))), (ax_tally, .inr (4, [.ref ax_tally_baskets, .int 0])), (ax_tally_baskets, .inl (cyI, 1000, .inl (fun _ => 0))), (ax_town, .inr (5, [.ref ax_town_price, .ref ax_town_stock, .ref ax_town_worth, .ref ax_town_less, .ref ax_town_purseSum, .ref ax_town_sightThing, .ref ax_town_sightCount, .ref ax_town_sightHow, .int 0])), (ax_town_less, .inl (cyI, 6, .inl (fun _ => 0))), (ax_town_price, .inl (cyI, 6, .inl (fun _ => 0))), (ax_town_purseSum, .inl (cyI, 4, .inl (fun j => if j < 4 then (-1) else (fun _ => 0) j))), (ax_town_sightCount, .inl (cyI, 6, .inl (fun _ => 0))), (ax_town_sightHow, .inl (cyI, 6, .inl (fun _ => 0))), (ax_town_sightThing, .inl (cyI, 6, .inl (fun _ => 0))), (ax_town_stock, .inl (cyI, 6, .inl (fun _ => 0))), (ax_town_worth, .inl (cyI, 6, .inl (fun _ => 0)))]) hP hD [0] [] rfl rfl (by decide) (by decide) hk1 hFc hP1 hD1
  generalize H1 = H at hP hS ⊢
  have hP : va_P (dC, dI) vwCl [(ax, .inr (6, [.ref ax_town, .ref ax_pad, .ref ax_images, .ref ax_kept, .ref ax_all, .ref ax_first, .ref ax_second, .ref ax_tally, .ref ax_boundless, .ref ax_parting])), (ax_all, .inr (3, [.ref ax_all_ranks, .ref ax_all_gains, .int (-1), .int 0])), (ax_all_gains, .inl (cyJ, 10, .inr (.inl (fun _ => 0)))), (ax_all_ranks, .inl (cyJ, 1000, .inr (.inl (fun _ => 0)))), (ax_boundless, .inr (0, [.ref ax_boundless_least, .int 0])), (ax_boundless_least, .inl (cyI, 99, .inl (fun _ => 0))), (ax_first, .inr (3, [.ref ax_first_ranks, .ref ax_first_gains, .int (-1), .int 0])), (ax_first_gains, .inl (cyJ, 10, .inr (.inl (fun _ => 0)))), (ax_first_ranks, .inl (cyJ, 1000, .inr (.inl (fun _ => 0)))), (ax_images, .inl (cyO, 2, .inr (.inr (.inr (.inr (va_i2 ax_images_0 ax_images_1)))))), (ax_images_0, .inr (5, [.ref ax_images_0_price, .ref ax_images_0_stock, .ref ax_images_0_worth, .ref ax_images_0_less, .ref ax_images_0_purseSum, .ref ax_images_0_sightThing, .ref ax_images_0_sightCount, .ref ax_images_0_sightHow, .int 0])), (ax_images_0_less, .inl (cyI, 6, .inl (fun _ => 0))), (ax_images_0_price, .inl (cyI, 6, .inl (fun _ => 0))), (ax_images_0_purseSum, .inl (cyI, 4, .inl (fun j => if j < 4 then (-1) else (fun _ => 0) j))), (ax_images_0_sightCount, .inl (cyI, 6, .inl (fun _ => 0))), (ax_images_0_sightHow, .inl (cyI, 6, .inl (fun _ => 0))), (ax_images_0_sightThing, .inl (cyI, 6, .inl (fun _ => 0))), (ax_images_0_stock, .inl (cyI, 6, .inl (fun _ => 0))), (ax_images_0_worth, .inl (cyI, 6, .inl (fun _ => 0))), (ax_images_1, .inr (5, [.ref ax_images_1_price, .ref ax_images_1_stock, .ref ax_images_1_worth, .ref ax_images_1_less, .ref ax_images_1_purseSum, .ref ax_images_1_sightThing, .ref ax_images_1_sightCount, .ref ax_images_1_sightHow, .int 0])), (ax_images_1_less, .inl (cyI, 6, .inl (fun _ => 0))), (ax_images_1_price, .inl (cyI, 6, .inl (fun _ => 0))), (ax_images_1_purseSum, .inl (cyI, 4, .inl (fun j => if j < 4 then (-1) else (fun _ => 0) j))), (ax_images_1_sightCount, .inl (cyI, 6, .inl (fun _ => 0))), (ax_images_1_sightHow, .inl (cyI, 6, .inl (fun _ => 0))), (ax_images_1_sightThing, .inl (cyI, 6, .inl (fun _ => 0))), (ax_images_1_stock, .inl (cyI, 6, .inl (fun _ => 0))), (ax_images_1_worth, .inl (cyI, 6, .inl (fun _ => 0))), (ax_kept, .inl (cyZ, 2, .inl (fun _ => 0))), (ax_pad, .inr (1, [.ref ax_pad_signs, .ref ax_pad_counts, .int 0])), (ax_pad_counts, .inl (cyI, 6, .inl (fun _ => 0))), (ax_pad_signs, .inl (cyI, 40, .inl (fun _ => 0))), (ax_parting, .inr (2, [.ref ax_parting_most, .ref ax_parting_group, .int 0])), (ax_parting_group, .inl (cyI, 16, .inl (fun _ => 0))), (ax_parting_most, .inl (cyI, 16, .inl (fun _ => 0))), (ax_second, .inr (3, [.ref ax_second_ranks, .ref ax_second_gains, .int (-1), .int 0])), (ax_second_gains, .inl (cyJ, 10, .inr (.inl (fun _ => 0)))), (ax_second_ranks, .inl (cyJ, 1000, .inr (.inl (fun _ => 0)))), (ax_tally, .inr (4, [.ref ax_tally_baskets, .int 0])), (ax_tally_baskets, .inl (cyI, 1000, .inl (fun _ => 0))), (ax_town, .inr (5, [.ref ax_town_price, .ref ax_town_stock, .ref ax_town_worth, .ref ax_town_less, .ref ax_town_purseSum, .ref ax_town_sightThing, .ref ax_town_sightCount, .ref ax_town_sightHow, .int 0])), (ax_town_less, .inl (cyI, 6, .inl (fun _ => 0))), (ax_town_price, .inl (cyI, 6, .inl (fun _ => 0))), (ax_town_purseSum, .inl (cyI, 4, .inl (fun j => if j < 4 then (-1) else (fun _ => 0) j))), (ax_town_sightCount, .inl (cyI, 6, .inl (fun _ => 0))), (ax_town_sightHow, .inl (cyI, 6, .inl (fun _ => 0))), (ax_town_sightThing, .inl (cyI, 6, .inl (fun _ => 0))), (ax_town_stock, .inl (cyI, 6, .inl (fun _ => 0))), (ax_town_worth, .inl (cyI, 6, .inl (fun _ => 0)))] H := hP
  have hD : va_D (fun q : Nat => s.heap.size ≤ q) [(ax, .inr (6, [.ref ax_town, .ref ax_pad, .ref ax_images, .ref ax_kept, .ref ax_all, .ref ax_first, .ref ax_second, .ref ax_tally, .ref ax_boundless, .ref ax_parting])), (ax_all, .inr (3, [.ref ax_all_ranks, .ref ax_all_gains, .int (-1), .int 0])), (ax_all_gains, .inl (cyJ, 10, .inr (.inl (fun _ => 0)))), (ax_all_ranks, .inl (cyJ, 1000, .inr (.inl (fun _ => 0)))), (ax_boundless, .inr (0, [.ref ax_boundless_least, .int 0])), (ax_boundless_least, .inl (cyI, 99, .inl (fun _ => 0))), (ax_first, .inr (3, [.ref ax_first_ranks, .ref ax_first_gains, .int (-1), .int 0])), (ax_first_gains, .inl (cyJ, 10, .inr (.inl (fun _ => 0)))), (ax_first_ranks, .inl (cyJ, 1000, .inr (.inl (fun _ => 0)))), (ax_images, .inl (cyO, 2, .inr (.inr (.inr (.inr (va_i2 ax_images_0 ax_images_1)))))), (ax_images_0, .inr (5, [.ref ax_images_0_price, .ref ax_images_0_stock, .ref ax_images_0_worth, .ref ax_images_0_less, .ref ax_images_0_purseSum, .ref ax_images_0_sightThing, .ref ax_images_0_sightCount, .ref ax_images_0_sightHow, .int 0])), (ax_images_0_less, .inl (cyI, 6, .inl (fun _ => 0))), (ax_images_0_price, .inl (cyI, 6, .inl (fun _ => 0))), (ax_images_0_purseSum, .inl (cyI, 4, .inl (fun j => if j < 4 then (-1) else (fun _ => 0) j))), (ax_images_0_sightCount, .inl (cyI, 6, .inl (fun _ => 0))), (ax_images_0_sightHow, .inl (cyI, 6, .inl (fun _ => 0))), (ax_images_0_sightThing, .inl (cyI, 6, .inl (fun _ => 0))), (ax_images_0_stock, .inl (cyI, 6, .inl (fun _ => 0))), (ax_images_0_worth, .inl (cyI, 6, .inl (fun _ => 0))), (ax_images_1, .inr (5, [.ref ax_images_1_price, .ref ax_images_1_stock, .ref ax_images_1_worth, .ref ax_images_1_less, .ref ax_images_1_purseSum, .ref ax_images_1_sightThing, .ref ax_images_1_sightCount, .ref ax_images_1_sightHow, .int 0])), (ax_images_1_less, .inl (cyI, 6, .inl (fun _ => 0))), (ax_images_1_price, .inl (cyI, 6, .inl (fun _ => 0))), (ax_images_1_purseSum, .inl (cyI, 4, .inl (fun j => if j < 4 then (-1) else (fun _ => 0) j))), (ax_images_1_sightCount, .inl (cyI, 6, .inl (fun _ => 0))), (ax_images_1_sightHow, .inl (cyI, 6, .inl (fun _ => 0))), (ax_images_1_sightThing, .inl (cyI, 6, .inl (fun _ => 0))), (ax_images_1_stock, .inl (cyI, 6, .inl (fun _ => 0))), (ax_images_1_worth, .inl (cyI, 6, .inl (fun _ => 0))), (ax_kept, .inl (cyZ, 2, .inl (fun _ => 0))), (ax_pad, .inr (1, [.ref ax_pad_signs, .ref ax_pad_counts, .int 0])), (ax_pad_counts, .inl (cyI, 6, .inl (fun _ => 0))), (ax_pad_signs, .inl (cyI, 40, .inl (fun _ => 0))), (ax_parting, .inr (2, [.ref ax_parting_most, .ref ax_parting_group, .int 0])), (ax_parting_group, .inl (cyI, 16, .inl (fun _ => 0))), (ax_parting_most, .inl (cyI, 16, .inl (fun _ => 0))), (ax_second, .inr (3, [.ref ax_second_ranks, .ref ax_second_gains, .int (-1), .int 0])), (ax_second_gains, .inl (cyJ, 10, .inr (.inl (fun _ => 0)))), (ax_second_ranks, .inl (cyJ, 1000, .inr (.inl (fun _ => 0)))), (ax_tally, .inr (4, [.ref ax_tally_baskets, .int 0])), (ax_tally_baskets, .inl (cyI, 1000, .inl (fun _ => 0))), (ax_town, .inr (5, [.ref ax_town_price, .ref ax_town_stock, .ref ax_town_worth, .ref ax_town_less, .ref ax_town_purseSum, .ref ax_town_sightThing, .ref ax_town_sightCount, .ref ax_town_sightHow, .int 0])), (ax_town_less, .inl (cyI, 6, .inl (fun _ => 0))), (ax_town_price, .inl (cyI, 6, .inl (fun _ => 0))), (ax_town_purseSum, .inl (cyI, 4, .inl (fun j => if j < 4 then (-1) else (fun _ => 0) j))), (ax_town_sightCount, .inl (cyI, 6, .inl (fun _ => 0))), (ax_town_sightHow, .inl (cyI, 6, .inl (fun _ => 0))), (ax_town_sightThing, .inl (cyI, 6, .inl (fun _ => 0))), (ax_town_stock, .inl (cyI, 6, .inl (fun _ => 0))), (ax_town_worth, .inl (cyI, 6, .inl (fun _ => 0)))] := hD
  refine W.widen (k := 49) (n := 4408) (Nat.le_of_ble_eq_true rfl) (Nat.le_of_ble_eq_true rfl) ?_
  refine lv_astore_n (lv' := [(1, .ref ax), (0, .ref b)]) hx hb dL_law_7 rfl hl (by decide) rfl (fun ls hl => ?_)
  obtain ⟨X, eX, hXI⟩ : ∃ X : va_W, X = [(ax, .inr (6, [.ref ax_town, .ref ax_pad, .ref ax_images, .ref ax_kept, .ref ax_all, .ref ax_first, .ref ax_second, .ref ax_tally, .ref ax_boundless, .ref ax_parting])), (ax_all, .inr (3, [.ref ax_all_ranks, .ref ax_all_gains, .int (-1), .int 0])), (ax_all_gains, .inl (cyJ, 10, .inr (.inl (fun _ => 0)))), (ax_all_ranks, .inl (cyJ, 1000, .inr (.inl (fun _ => 0)))), (ax_boundless, .inr (0, [.ref ax_boundless_least, .int 0])), (ax_boundless_least, .inl (cyI, 99, .inl (fun _ => 0))), (ax_first, .inr (3, [.ref ax_first_ranks, .ref ax_first_gains, .int (-1), .int 0])), (ax_first_gains, .inl (cyJ, 10, .inr (.inl (fun _ => 0)))), (ax_first_ranks, .inl (cyJ, 1000, .inr (.inl (fun _ => 0)))), (ax_images, .inl (cyO, 2, .inr (.inr (.inr (.inr (va_i2 ax_images_0 ax_images_1)))))), (ax_images_0, .inr (5, [.ref ax_images_0_price, .ref ax_images_0_stock, .ref ax_images_0_worth, .ref ax_images_0_less, .ref ax_images_0_purseSum, .ref ax_images_0_sightThing, .ref ax_images_0_sightCount, .ref ax_images_0_sightHow, .int 0])), (ax_images_0_less, .inl (cyI, 6, .inl (fun _ => 0))), (ax_images_0_price, .inl (cyI, 6, .inl (fun _ => 0))), (ax_images_0_purseSum, .inl (cyI, 4, .inl (fun j => if j < 4 then (-1) else (fun _ => 0) j))), (ax_images_0_sightCount, .inl (cyI, 6, .inl (fun _ => 0))), (ax_images_0_sightHow, .inl (cyI, 6, .inl (fun _ => 0))), (ax_images_0_sightThing, .inl (cyI, 6, .inl (fun _ => 0))), (ax_images_0_stock, .inl (cyI, 6, .inl (fun _ => 0))), (ax_images_0_worth, .inl (cyI, 6, .inl (fun _ => 0))), (ax_images_1, .inr (5, [.ref ax_images_1_price, .ref ax_images_1_stock, .ref ax_images_1_worth, .ref ax_images_1_less, .ref ax_images_1_purseSum, .ref ax_images_1_sightThing, .ref ax_images_1_sightCount, .ref ax_images_1_sightHow, .int 0])), (ax_images_1_less, .inl (cyI, 6, .inl (fun _ => 0))), (ax_images_1_price, .inl (cyI, 6, .inl (fun _ => 0))), (ax_images_1_purseSum, .inl (cyI, 4, .inl (fun j => if j < 4 then (-1) else (fun _ => 0) j))), (ax_images_1_sightCount, .inl (cyI, 6, .inl (fun _ => 0))), (ax_images_1_sightHow, .inl (cyI, 6, .inl (fun _ => 0))), (ax_images_1_sightThing, .inl (cyI, 6, .inl (fun _ => 0))), (ax_images_1_stock, .inl (cyI, 6, .inl (fun _ => 0))), (ax_images_1_worth, .inl (cyI, 6, .inl (fun _ => 0))), (ax_kept, .inl (cyZ, 2, .inl (fun _ => 0))), (ax_pad, .inr (1, [.ref ax_pad_signs, .ref ax_pad_counts, .int 0])), (ax_pad_counts, .inl (cyI, 6, .inl (fun _ => 0))), (ax_pad_signs, .inl (cyI, 40, .inl (fun _ => 0))), (ax_parting, .inr (2, [.ref ax_parting_most, .ref ax_parting_group, .int 0])), (ax_parting_group, .inl (cyI, 16, .inl (fun _ => 0))), (ax_parting_most, .inl (cyI, 16, .inl (fun _ => 0))), (ax_second, .inr (3, [.ref ax_second_ranks, .ref ax_second_gains, .int (-1), .int 0])), (ax_second_gains, .inl (cyJ, 10, .inr (.inl (fun _ => 0)))), (ax_second_ranks, .inl (cyJ, 1000, .inr (.inl (fun _ => 0)))), (ax_tally, .inr (4, [.ref ax_tally_baskets, .int 0])), (ax_tally_baskets, .inl (cyI, 1000, .inl (fun _ => 0))), (ax_town, .inr (5, [.ref ax_town_price, .ref ax_town_stock, .ref ax_town_worth, .ref ax_town_less, .ref ax_town_purseSum, .ref ax_town_sightThing, .ref ax_town_sightCount, .ref ax_town_sightHow, .int 0])), (ax_town_less, .inl (cyI, 6, .inl (fun _ => 0))), (ax_town_price, .inl (cyI, 6, .inl (fun _ => 0))), (ax_town_purseSum, .inl (cyI, 4, .inl (fun j => if j < 4 then (-1) else (fun _ => 0) j))), (ax_town_sightCount, .inl (cyI, 6, .inl (fun _ => 0))), (ax_town_sightHow, .inl (cyI, 6, .inl (fun _ => 0))), (ax_town_sightThing, .inl (cyI, 6, .inl (fun _ => 0))), (ax_town_stock, .inl (cyI, 6, .inl (fun _ => 0))), (ax_town_worth, .inl (cyI, 6, .inl (fun _ => 0)))] ∧ XIv cyI cyJ cyZ cyO T0 p0 im0 ax X := ⟨_, rfl, XIv_mk ax_all ax_all_gains ax_all_ranks ax_boundless ax_boundless_least ax_first ax_first_gains ax_first_ranks ax_images ax_images_0 ax_images_0_less ax_images_0_price ax_images_0_purseSum ax_images_0_sightCount ax_images_0_sightHow ax_images_0_sightThing ax_images_0_stock ax_images_0_worth ax_images_1 ax_images_1_less ax_images_1_price ax_images_1_purseSum ax_images_1_sightCount ax_images_1_sightHow ax_images_1_sightThing ax_images_1_stock ax_images_1_worth ax_kept ax_pad ax_pad_counts ax_pad_signs ax_parting ax_parting_group ax_parting_most ax_second ax_second_gains ax_second_ranks ax_tally ax_tally_baskets ax_town ax_town_less ax_town_price ax_town_purseSum ax_town_sightCount ax_town_sightHow ax_town_sightThing ax_town_stock ax_town_worth (-1) (fun _ => 0) (fun _ => 0) 0 0 (fun _ => 0) (-1) (fun _ => 0) (fun _ => 0) 0 (fun _ => 0) (fun _ => 0) (fun j => if j < 4 then (-1) else (fun _ => 0) j) (fun _ => 0) (fun _ => 0) (fun _ => 0) 0 (fun _ => 0) (fun _ => 0) (fun _ => 0) (fun _ => 0) (fun j => if j < 4 then (-1) else (fun _ => 0) j) (fun _ => 0) (fun _ => 0) (fun _ => 0) 0 (fun _ => 0) (fun _ => 0) (fun _ => 0) (fun _ => 0) 0 (fun _ => 0) (fun _ => 0) (fun _ => 0) 0 (-1) (fun _ => 0) (fun _ => 0) 0 (fun _ => 0) 0 (fun _ => 0) (fun _ => 0) (fun j => if j < 4 then (-1) else (fun _ => 0) j) (fun _ => 0) (fun _ => 0) (fun _ => 0) 0 (fun _ => 0) (fun _ => 0) (T0_W (fun p hp => if_pos hp)) (p0_ok _) (Or.inl (by decide)) (Or.inl (by decide)) (Or.inl (by decide)) (Or.inl rfl) rfl (Or.inl ⟨rfl, rfl⟩) (Or.inl ⟨rfl, rfl⟩)⟩
  rw [← eX] at hP hD
  refine va_new (D := (dC, dI)) (ci := 7) (fs := [.null, .null, .null, .null, .null, .null, .null, .null, .int 0, .null, .int 0, .null, .null, .null, .null, .null, .null, .null, .null, .null, .int 0, .int 0]) (C := RX7) (T := TX7) (N := 22) hx hb hts inX7 tyX7 tyX7_ok hown (hts _ lt_cl10) (hts _ lt_in7) (hts _ lt_iz7) hK hP hD hS hA rfl (fun j hj => by rcases (show j = 0 ∨ j = 1 ∨ j = 2 ∨ j = 3 ∨ j = 4 ∨ j = 5 ∨ j = 6 ∨ j = 7 ∨ j = 8 ∨ j = 9 ∨ j = 10 ∨ j = 11 ∨ j = 12 ∨ j = 13 ∨ j = 14 ∨ j = 15 ∨ j = 16 ∨ j = 17 ∨ j = 18 ∨ j = 19 ∨ j = 20 ∨ j = 21 by omega) with rfl | rfl | rfl | rfl | rfl | rfl | rfl | rfl | rfl | rfl | rfl | rfl | rfl | rfl | rfl | rfl | rfl | rfl | rfl | rfl | rfl | rfl <;> rfl) (Nat.le_of_ble_eq_true rfl) (Nat.le_of_ble_eq_true rfl) dL_law_8 (fun am H hP hD hS => ?_)
  have h2 : tw (dC, dI) vwCl (fun q : Nat => s.heap.size ≤ q) X [(am, .inr (7, [.null, .null, .null, .null, .null, .null, .null, .null, .int 0, .null, .int 0, .null, .null, .null, .null, .null, .null, .null, .null, .null, .int 0, .int 0]))] H := tw_of hP hD
  refine W.widen (k := 50) (n := 4430) (Nat.le_of_ble_eq_true rfl) (Nat.le_of_ble_eq_true rfl) ?_
  refine lv_dup hx hb dL_law_11 rfl ?_
  have hFc := va_free (wc := [(am, .inr (7, [.null, .null, .null, .null, .null, .null, .null, .null, .int 0, .null, .int 0, .null, .null, .null, .null, .null, .null, .null, .null, .null, .int 0, .int 0]))]) h2.2.2.2.1 hS hA [0] rfl
  refine va_callv (va_runI (As := []) (rest := [.ref am]) ⟨hx, hb, hml, hown, htsL⟩ (c_X7_init l dC dI cyI cyJ cyZ cyO am H.size) (cwI 0 htsL gL_law_X7_init rfl rfl rfl (hts _ lt_iz7) (hts _ lt_ml12) (hts _ lt_im7) rfl (by decide +kernel) ⟨Nat.le_of_ble_eq_true rfl, Nat.le_of_ble_eq_true rfl⟩) ⟨fb_px, fun U hU hW => ⟨rfl, px_of hK hN h2.2.1 h2.2.2.2.1 U hU hW⟩⟩ rfl rfl hl.1 rfl (lv_room (Nat.le_of_ble_eq_true rfl)) dL_law_12 ⟨Nat.le_of_ble_eq_true rfl, Nat.le_of_ble_eq_true rfl⟩) hS (fun q _ h => hFc q h) hFc (fun u t H1 locs ht hvm hw hB hz1 hk1 hS => ?_)
  obtain ⟨am_best, am_bestWith, am_firstOut, am_isKept, am_kept, am_less, am_lies, am_many, am_out, am_pad, am_price, am_purse, am_sightHow, am_sightMany, am_sightThing, am_stock, am_with, am_worth, hP1, hD1⟩ := hB
  rw [ht] at hP1
  have h2 := (tw_call (X' := [(am, .inr (7, [.ref am_price, .ref am_stock, .ref am_worth, .ref am_less, .ref am_purse, .ref am_sightThing, .ref am_sightMany, .ref am_sightHow, .int 0, .ref am_pad, .int 0, .ref am_lies, .ref am_best, .ref am_many, .ref am_out, .ref am_with, .ref am_bestWith, .ref am_firstOut, .ref am_kept, .ref am_isKept, .int 0, .int 0])), (am_best, .inl (cyI, 7000, .inl (fun _ => 0))), (am_bestWith, .inl (cyI, 4, .inl (fun _ => 0))), (am_firstOut, .inl (cyZ, 1000, .inl (fun _ => 0))), (am_isKept, .inl (cyZ, 2, .inl (fun _ => 0))), (am_kept, .inl (cyI, 120, .inl (fun _ => 0))), (am_less, .inl (cyI, 6, .inl (fun _ => 0))), (am_lies, .inl (cyI, 6, .inl (fun _ => 0))), (am_many, .inl (cyI, 7000, .inl (fun _ => 0))), (am_out, .inl (cyZ, 10000, .inl (fun _ => 0))), (am_pad, .inl (cyI, 40, .inl (fun _ => 0))), (am_price, .inl (cyI, 6, .inl (fun _ => 0))), (am_purse, .inl (cyI, 4, .inl (upd (upd (upd (upd (fun _ => 0) (Int32.toNatClampNeg 0) (-1)) (Int32.toNatClampNeg 1) (-1)) (Int32.toNatClampNeg 2) (-1)) (Int32.toNatClampNeg 3) (-1)))), (am_sightHow, .inl (cyI, 6, .inl (fun _ => 0))), (am_sightMany, .inl (cyI, 6, .inl (fun _ => 0))), (am_sightThing, .inl (cyI, 6, .inl (fun _ => 0))), (am_stock, .inl (cyI, 6, .inl (fun _ => 0))), (am_with, .inl (cyI, 4, .inl (fun _ => 0))), (am_worth, .inl (cyI, 6, .inl (fun _ => 0)))]) (wr := []) (w1 := [(am, .inr (7, [.ref am_price, .ref am_stock, .ref am_worth, .ref am_less, .ref am_purse, .ref am_sightThing, .ref am_sightMany, .ref am_sightHow, .int 0, .ref am_pad, .int 0, .ref am_lies, .ref am_best, .ref am_many, .ref am_out, .ref am_with, .ref am_bestWith, .ref am_firstOut, .ref am_kept, .ref am_isKept, .int 0, .int 0])), (am_best, .inl (cyI, 7000, .inl (fun _ => 0))), (am_bestWith, .inl (cyI, 4, .inl (fun _ => 0))), (am_firstOut, .inl (cyZ, 1000, .inl (fun _ => 0))), (am_isKept, .inl (cyZ, 2, .inl (fun _ => 0))), (am_kept, .inl (cyI, 120, .inl (fun _ => 0))), (am_less, .inl (cyI, 6, .inl (fun _ => 0))), (am_lies, .inl (cyI, 6, .inl (fun _ => 0))), (am_many, .inl (cyI, 7000, .inl (fun _ => 0))), (am_out, .inl (cyZ, 10000, .inl (fun _ => 0))), (am_pad, .inl (cyI, 40, .inl (fun _ => 0))), (am_price, .inl (cyI, 6, .inl (fun _ => 0))), (am_purse, .inl (cyI, 4, .inl (upd (upd (upd (upd (fun _ => 0) (Int32.toNatClampNeg 0) (-1)) (Int32.toNatClampNeg 1) (-1)) (Int32.toNatClampNeg 2) (-1)) (Int32.toNatClampNeg 3) (-1)))), (am_sightHow, .inl (cyI, 6, .inl (fun _ => 0))), (am_sightMany, .inl (cyI, 6, .inl (fun _ => 0))), (am_sightThing, .inl (cyI, 6, .inl (fun _ => 0))), (am_stock, .inl (cyI, 6, .inl (fun _ => 0))), (am_with, .inl (cyI, 4, .inl (fun _ => 0))), (am_worth, .inl (cyI, 6, .inl (fun _ => 0)))]) h2.swap [0] [] [0, 1, 2, 3, 4, 5, 6, 7, 8, 9, 10, 11, 12, 13, 14, 15, 16, 17, 18] rfl rfl (by decide) (by decide) (by decide) rfl hk1 hFc hP1 hD1).swap
  refine W.widen (k := 68) (n := 29652) (Nat.le_of_ble_eq_true rfl) (Nat.le_of_ble_eq_true rfl) ?_
  refine lv_astore_n (lv' := [(2, .ref am), (1, .ref ax), (0, .ref b)]) hx hb dL_law_15 rfl hl (by decide) rfl (fun ls hl => ?_)
  refine lv_iconst (v := 0) hx hb dL_law_16 (by decide) ?_
  refine lv_istore_n (lv' := [(3, .int 0), (2, .ref am), (1, .ref ax), (0, .ref b)]) hx hb dL_law_17 rfl hl (by decide) rfl (fun ls hl => ?_)
  have hMI : MIv cyI cyJ cyZ cyO T0 p0 im0 am [(am, .inr (7, [.ref am_price, .ref am_stock, .ref am_worth, .ref am_less, .ref am_purse, .ref am_sightThing, .ref am_sightMany, .ref am_sightHow, .int 0, .ref am_pad, .int 0, .ref am_lies, .ref am_best, .ref am_many, .ref am_out, .ref am_with, .ref am_bestWith, .ref am_firstOut, .ref am_kept, .ref am_isKept, .int 0, .int 0])), (am_best, .inl (cyI, 7000, .inl (fun _ => 0))), (am_bestWith, .inl (cyI, 4, .inl (fun _ => 0))), (am_firstOut, .inl (cyZ, 1000, .inl (fun _ => 0))), (am_isKept, .inl (cyZ, 2, .inl (fun _ => 0))), (am_kept, .inl (cyI, 120, .inl (fun _ => 0))), (am_less, .inl (cyI, 6, .inl (fun _ => 0))), (am_lies, .inl (cyI, 6, .inl (fun _ => 0))), (am_many, .inl (cyI, 7000, .inl (fun _ => 0))), (am_out, .inl (cyZ, 10000, .inl (fun _ => 0))), (am_pad, .inl (cyI, 40, .inl (fun _ => 0))), (am_price, .inl (cyI, 6, .inl (fun _ => 0))), (am_purse, .inl (cyI, 4, .inl (upd (upd (upd (upd (fun _ => 0) (Int32.toNatClampNeg 0) (-1)) (Int32.toNatClampNeg 1) (-1)) (Int32.toNatClampNeg 2) (-1)) (Int32.toNatClampNeg 3) (-1)))), (am_sightHow, .inl (cyI, 6, .inl (fun _ => 0))), (am_sightMany, .inl (cyI, 6, .inl (fun _ => 0))), (am_sightThing, .inl (cyI, 6, .inl (fun _ => 0))), (am_stock, .inl (cyI, 6, .inl (fun _ => 0))), (am_with, .inl (cyI, 4, .inl (fun _ => 0))), (am_worth, .inl (cyI, 6, .inl (fun _ => 0)))] := MIv_mk am_best am_bestWith am_firstOut am_isKept am_kept am_less am_lies am_many am_out am_pad am_price am_purse am_sightHow am_sightMany am_sightThing am_stock am_with am_worth (fun _ => 0) (fun _ => 0) (fun _ => 0) (fun _ => 0) 0 (fun _ => 0) 0 (fun _ => 0) (fun _ => 0) (fun _ => 0) (fun _ => 0) (fun _ => 0) 0 (fun _ => 0) (upd (upd (upd (upd (fun _ => 0) (Int32.toNatClampNeg 0) (-1)) (Int32.toNatClampNeg 1) (-1)) (Int32.toNatClampNeg 2) (-1)) (Int32.toNatClampNeg 3) (-1)) (fun _ => 0) (fun _ => 0) (fun _ => 0) 0 (fun _ => 0) (fun _ => 0) (fun _ => 0) (T0_W up4) (p0_ok _) (Or.inl ⟨rfl, rfl⟩) (Or.inl ⟨rfl, rfl⟩)
  exact law_loop hL C9 hX (L + 1) 0 (Nat.zero_le L) (by omega) T0 p0 im0 X _ _ _ ls hXI hMI h2 hS (by rw [nI_0]; exact lv_sub hl [3, 2, 1, 0] rfl)
set_option maxHeartbeats 4000000 in
theorem lw_walk (l : Launch) (hflags : l.flags = flags0) (b : Addr) (xs : List Int32) : MetFree l x (headSpec (Jvm.Cond.code x code maxLocals ret :: tables_1) room_1) (lw_P b xs) (fun _ _ _ _ _ => True) lw_Q := by
  refine MetFree.of_bodyS (code := code) (maxLocals := maxLocals) (ret := ret) (by decide) ?_ ?_
  · intro args s m h hn
    obtain ⟨meth, c, h1, h2, h3, h4, h5, h6, -, -⟩ := Cond.code_spec hn (atoms_spec (ws := Jvm.Cond.code x code maxLocals ret :: tables_1) h _ List.mem_cons_self)
    exact ⟨meth, c, h1, h2, h3, h4, h5, h6⟩
  · intro p e s m args below meth c s₁ B hml0 hP _
    obtain ⟨rfl, hx, hbd, hgv⟩ := hP
    obtain ⟨scr, harrAt, hlist, hof, hsmall⟩ := hx
    obtain ⟨hcb, hkn, -, -⟩ := State.arrayAt?_spec harrAt
    have hown : s.vm.findClass R_law = some m.cls := findClass_of_methodNamed B.named
    have hts0 : ∀ c ∈ (Jvm.Cond.code x code maxLocals ret :: tables_1), c.before #[Value.ref b] s = true := atoms_spec (ws := Jvm.Cond.code x code maxLocals ret :: tables_1) B.pre
    have hts : ∀ w ∈ lw_tbl, w.before #[Value.ref b] s = true := k2_hts_sels lw_privs (fun w hw => hts0 w (List.mem_cons_of_mem _ hw)) lw_privs_ok
    have hml : c.maxLocals = 4 := B.maxLocals_eq (hts0 _ List.mem_cons_self)
    have X₀ : Stand p l e room_1 s m #[Value.ref b] below meth c s₁ [] 0 0 := Stand.of_body B
    have hh0 : s₁.heap = s.heap := by rw [B.state]; rfl
    have hsz : scr.slots.size = xs.length := by rw [← Array.length_toList, hlist, List.length_map]
    have hval : ∀ j : Nat, j < xs.length → scr.slots[j]? = some (.int (xs.getD j 0)) := fun j hj => by
      rw [← Array.getElem?_toList, hlist]
      simp [hj]
    have hbl : b < s.heap.size := (Array.getElem?_eq_some_iff.mp hcb).1
    have hX : va_X b xs.length (fun j => xs.getD j 0) s s.heap := ⟨scr, hcb, hof, hkn, hsz, hval⟩
    have K : W p l e room_1 s m #[Value.ref b] below meth c s₁.heap [] 0 0 (lw_Z below #[Value.ref b] s) (entryFrame m ([Value.ref b] : List Value).toArray 4) := by
      rw [hh0]
      exact whole_start l hflags hbd ⟨B.exec, B.bytes, B.returns, hml, hown, hts, hX, hbl, B.notSynchronized, hgv⟩
    obtain ⟨t, a1, o, b1, b2, b3⟩ := K s₁ rfl X₀
    exact ⟨t, o, a1, b1, b2, b3⟩
theorem lw_pre_spec {args : Array Value} {s : State} (h : (Jvm.Cond.and given_1 narrow_1).before args s = true) (hr : rest_1_c.before args s = true) : ∃ (b : Addr) (xs : List Int32), lw_P b xs args s := by
  have hs := flat_of_before _ h
  have hq := flat_of_before _ hr
  have hc : (Cond.count 1).before args s = true := hs _ (by decide +kernel)
  have harr : (Cond.arrayOf (.arg 0) .int).before args s = true := hs _ (by decide +kernel)
  have hle : (Cond.le (.length (.arg 0)) (.int 3072)).before args s = true := hs _ (by decide +kernel)
  have hlen : (Cond.isInt (.length (.arg 0))).before args s = true := hq _ (by decide +kernel)
  have hall : (Cond.all (.arg 0) (.isInt (.elem (.arg 0) (.index 0)))).before args s = true := hq _ (by decide +kernel)
  obtain ⟨b, xs, hb, hx⟩ := State.ints_of_pre rfl harr hlen hall
  have hsm : xs.length < 2 ^ 31 := hx.choose_spec.2.2.2
  have hev : (Term.length (.arg 0)).eval args s none [] s = some (.int xs.length.toInt32) := hx.length_eval hb
  have hv := Cond.le_ints hev (show (Term.int 3072).eval args s none [] s = some (.int 3072) from rfl)
  have hd : xs.length.toInt32 ≤ 3072 := by
    simpa [Cond.before, Cond.holds, hv] using hle
  have hN : xs.length ≤ 3072 := (Int32.ofNat_le_ofNat hsm (by decide)).mp (show Int32.ofNat xs.length ≤ Int32.ofNat 3072 from hd)
  exact ⟨b, xs, Cond.one_arg hc (show args[0]? = some (.ref b) from hb), hx, hN, h⟩
theorem lw_comes (l : Launch) (hflags : l.flags = flags0) : Comes l x (Jvm.Cond.code x code maxLocals ret :: tables_1) room_1 (fun tb e args s => Calls_1 tb e args s ∧ rest_1 tb e args s ∧ Pre_1 tb e args s)
    (fun _ _ args s o t => lw_Q args s o t) := by
  intro p e ha hc hk s m args below hf hfit hheap happ hpre
  obtain ⟨b, xs, hP⟩ := lw_pre_spec hpre.2.2 hpre.2.1
  obtain ⟨k, o, h1, h2, h3, hQ⟩ := lw_walk l hflags b xs p e ha hc hk s m args below hf ((Spec.applies_iff_loose hf).mp happ).1 hP trivial
  exact ⟨k, o, h1, h2, h3, hQ⟩
theorem lw_frame {s t : State} {o : Outcome} {args : Array Value} (h : Framed s o t [] 600000 7302250) :
    Framed s o t (fieldLocs frame_1_writes args s ++ arrayLocs frame_1_arrays args s ++ staticLocs frame_1_statics s) 600000 7302250 := h
theorem lw_limb (L : Cond) (hL : ∀ (args : Array Value) (s t : State), L.after args s (.returned (some (.int 1))) t = true) :
    ArmFor flags0 classFile x code maxLocals ret World_1 tables_1 room_1 Calls_1 rest_1 Pre_1
      (fun tb e a s o t => postC L tb e a s o t ∧ Framed s o t (fieldLocs frame_1_writes a s ++ arrayLocs frame_1_arrays a s ++ staticLocs frame_1_statics s) 600000 7302250) := by
  intro l hflags _ _ p e ha hc hk s m args below hf hfit hheap happ hpre
  obtain ⟨k, o, h1, h2, h3, rfl, hF⟩ := lw_comes l hflags p e ha hc hk s m args below hf hfit hheap happ hpre
  exact ⟨k, _, h1, h2, h3, hL args s _, lw_frame hF⟩
theorem i_vc : Claimed_1_1 ∧ Claimed_1_2 := ⟨lw_limb limb_1_1 (fun args s t => by simp [limb_1_1, Cond.after, Cond.holds, Cond.value]), lw_limb limb_1_2 (fun args s t => Cond.after_iff.mpr (by
  first | (rw [show limb_1_2 = Cond.eq .result (.int 1) from rfl, Cond.eq_ints (x := 1) (y := 1) rfl rfl]; simp; done) | (simp [limb_1_2, Cond.value, Term.eval]; done)))⟩
