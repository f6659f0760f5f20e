theorem inK {i L k : Nat} {v : Int32} (hi : i + 6 ≤ L) (hL : L ≤ 3072) (hk : k < 6) (hv : nI k = v) : vp_in (nI i + v) L := by
  rw [← hv, nI_add]
  exact vp_in_nI (by omega) (by omega)
theorem and31 (x : Int32) : ∃ k : Nat, k < 32 ∧ x &&& 31 = nI k := by
  have e : x = nI x.toBitVec.toNat := by
    apply Int32.toBitVec_inj.1
    show x.toBitVec = BitVec.ofNat 32 x.toBitVec.toNat
    simp
  refine ⟨x.toBitVec.toNat % 32, Nat.mod_lt _ (by omega), ?_⟩
  have h : nI x.toBitVec.toNat &&& nI 31 = nI (x.toBitVec.toNat &&& 31) := by
    apply Int32.toBitVec_inj.1
    show BitVec.ofNat 32 x.toBitVec.toNat &&& BitVec.ofNat 32 31 = BitVec.ofNat 32 (x.toBitVec.toNat &&& 31)
    apply BitVec.eq_of_getLsbD_eq
    intro i hi
    simp [hi]
  rw [show (31 : Nat) = 2 ^ 5 - 1 from rfl, Nat.and_two_pow_sub_one_eq_mod] at h
  rw [← e] at h
  exact h
theorem le6 {i L : Nat} (hi : i ≤ L) (hL : L ≤ 3072) (h : ¬ (Int32.ofNat L - 6 < nI i)) : i + 6 ≤ L := by
  have e : Int32.ofNat L - 6 = iI ((L : Int) - 6) := by
    rw [show Int32.ofNat L = iI (L : Int) from iI_nI L]
    exact iI_sub _ 6
  rw [e, iI_nI, iI_lt (by omega) (by omega) (by omega) (by omega)] at h
  omega
set_option maxHeartbeats 4000000 in
set_option maxRecDepth 100000 in
theorem lk_thing {p : Program} {l : Launch} {e : Env} {s : State} {m : MethodId} {below : List Frame} {meth : Method} {c : Code} {b : Addr} {dC : Nat → ClassId} {dI : Nat → Nat → Nat} {cyI cyJ cyZ cyO : ClassId} {Z : State → Prop} {L : Nat} {xs : Nat → Int32} {i : Nat} (C0 : lwC p s m meth c b dC dI cyI cyJ cyZ cyO) (hX9 : va_X b L xs s s.heap) (hL : L ≤ 3072) (hi : i + 6 ≤ L) {T : Tn} {pd : Pd} {im : Nat → Option Tn} {x mm : Nat} {X M : va_W} {H : Heap} {locs : List Loc} {ls : Array Slot} (hXI : XIv cyI cyJ cyZ cyO T pd im x X) (hMI : MIv cyI cyJ cyZ cyO T pd im mm M) (h2 : tw (dC, dI) vwCl (fun q : Nat => s.heap.size ≤ q) X M H) (hS : va_S (fun q : Nat => s.heap.size ≤ q) s.heap H locs) (hl : lv_has ls 4 [(0, .ref b), (1, .ref x), (2, .ref mm), (3, .int (nI i))]) (K : ∀ (T : Tn) (pd : Pd) (im : Nat → Option Tn) (X M : va_W) (H : Heap) (locs : List Loc), XIv cyI cyJ cyZ cyO T pd im x X → MIv cyI cyJ cyZ cyO T pd im mm M → tw (dC, dI) vwCl (fun q : Nat => s.heap.size ≤ q) X M H → va_S (fun q : Nat => s.heap.size ≤ q) s.heap H locs → W p l e room_1 s m #[Value.ref b] below meth c H locs 68 29652 Z (F0 m 940 ls [])) : W p l e room_1 s m #[Value.ref b] below meth c H locs 68 29652 Z (F0 m 152 ls []) := by
  obtain ⟨hx, hb, hml, hown, hts, hr, hlocks, hK, hN, hbl⟩ := id C0
  have hbA : ¬ (fun q : Nat => s.heap.size ≤ q) b := Nat.not_le.mpr hbl
  refine lv_aload_n hx hb dL_law_152 rfl (lv_at hl 1 rfl) ?_
  refine lv_aload_n hx hb dL_law_153 rfl (lv_at hl 0 rfl) ?_
  refine lv_iload_n hx hb dL_law_154 rfl (lv_at hl 3 rfl) ?_
  refine lv_iconst (v := 1) hx hb dL_law_155 (by decide) ?_
  refine lv_iadd hx hb dL_law_156 ?_
  refine va_sld hx hb hX9 hbl hbA hS (inK hi hL (k := 1) (by decide) rfl) dL_law_157 ?_
  refine lv_aload_n hx hb dL_law_158 rfl (lv_at hl 0 rfl) ?_
  refine lv_iload_n hx hb dL_law_159 rfl (lv_at hl 3 rfl) ?_
  refine lv_iconst (v := 2) hx hb dL_law_160 (by decide) ?_
  refine lv_iadd hx hb dL_law_161 ?_
  refine va_sld hx hb hX9 hbl hbA hS (inK hi hL (k := 2) (by decide) rfl) dL_law_162 ?_
  refine lv_aload_n hx hb dL_law_163 rfl (lv_at hl 0 rfl) ?_
  refine lv_iload_n hx hb dL_law_164 rfl (lv_at hl 3 rfl) ?_
  refine lv_iconst (v := 3) hx hb dL_law_165 (by decide) ?_
  refine lv_iadd hx hb dL_law_166 ?_
  refine va_sld hx hb hX9 hbl hbA hS (inK hi hL (k := 3) (by decide) rfl) dL_law_167 ?_
  refine lv_aload_n hx hb dL_law_168 rfl (lv_at hl 0 rfl) ?_
  refine lv_iload_n hx hb dL_law_169 rfl (lv_at hl 3 rfl) ?_
  refine lv_iconst (v := 4) hx hb dL_law_170 (by decide) ?_
  refine lv_iadd hx hb dL_law_171 ?_
  refine va_sld hx hb hX9 hbl hbA hS (inK hi hL (k := 4) (by decide) rfl) dL_law_172 ?_
  refine lv_aload_n hx hb dL_law_173 rfl (lv_at hl 0 rfl) ?_
  refine lv_iload_n hx hb dL_law_174 rfl (lv_at hl 3 rfl) ?_
  refine lv_iconst (v := 5) hx hb dL_law_175 (by decide) ?_
  refine lv_iadd hx hb dL_law_176 ?_
  refine va_sld hx hb hX9 hbl hbA hS (inK hi hL (k := 5) (by decide) rfl) dL_law_177 ?_
  refine lX_thing C0 hXI h2 hS hl.1 _ _ _ _ _ (fun X H locs hXI h2 hS => ?_)
  refine lv_aload_n hx hb dL_law_181 rfl (lv_at hl 2 rfl) ?_
  refine lv_aload_n hx hb dL_law_182 rfl (lv_at hl 0 rfl) ?_
  refine lv_iload_n hx hb dL_law_183 rfl (lv_at hl 3 rfl) ?_
  refine lv_iconst (v := 1) hx hb dL_law_184 (by decide) ?_
  refine lv_iadd hx hb dL_law_185 ?_
  refine va_sld hx hb hX9 hbl hbA hS (inK hi hL (k := 1) (by decide) rfl) dL_law_186 ?_
  refine lv_aload_n hx hb dL_law_187 rfl (lv_at hl 0 rfl) ?_
  refine lv_iload_n hx hb dL_law_188 rfl (lv_at hl 3 rfl) ?_
  refine lv_iconst (v := 2) hx hb dL_law_189 (by decide) ?_
  refine lv_iadd hx hb dL_law_190 ?_
  refine va_sld hx hb hX9 hbl hbA hS (inK hi hL (k := 2) (by decide) rfl) dL_law_191 ?_
  refine lv_aload_n hx hb dL_law_192 rfl (lv_at hl 0 rfl) ?_
  refine lv_iload_n hx hb dL_law_193 rfl (lv_at hl 3 rfl) ?_
  refine lv_iconst (v := 3) hx hb dL_law_194 (by decide) ?_
  refine lv_iadd hx hb dL_law_195 ?_
  refine va_sld hx hb hX9 hbl hbA hS (inK hi hL (k := 3) (by decide) rfl) dL_law_196 ?_
  refine lv_aload_n hx hb dL_law_197 rfl (lv_at hl 0 rfl) ?_
  refine lv_iload_n hx hb dL_law_198 rfl (lv_at hl 3 rfl) ?_
  refine lv_iconst (v := 4) hx hb dL_law_199 (by decide) ?_
  refine lv_iadd hx hb dL_law_200 ?_
  refine va_sld hx hb hX9 hbl hbA hS (inK hi hL (k := 4) (by decide) rfl) dL_law_201 ?_
  refine lv_aload_n hx hb dL_law_202 rfl (lv_at hl 0 rfl) ?_
  refine lv_iload_n hx hb dL_law_203 rfl (lv_at hl 3 rfl) ?_
  refine lv_iconst (v := 5) hx hb dL_law_204 (by decide) ?_
  refine lv_iadd hx hb dL_law_205 ?_
  refine va_sld hx hb hX9 hbl hbA hS (inK hi hL (k := 5) (by decide) rfl) dL_law_206 ?_
  refine lM_thing C0 hMI h2.swap hS hl.1 _ _ _ _ _ _ (fun M H locs hMI h2 hS => ?_)
  exact lv_icmp_eq (tgt := 940) hx hb dL_law_210 (by decide) (fun _ => K _ _ _ _ _ _ _ hXI hMI h2.swap hS) (fun h9 => absurd rfl h9)
set_option maxHeartbeats 4000000 in
set_option maxRecDepth 100000 in
theorem lk_say {p : Program} {l : Launch} {e : Env} {s : State} {m : MethodId} {below : List Frame} {meth : Method} {c : Code} {b : Addr} {dC : Nat → ClassId} {dI : Nat → Nat → Nat} {cyI cyJ cyZ cyO : ClassId} {Z : State → Prop} {L : Nat} {xs : Nat → Int32} {i : Nat} (C0 : lwC p s m meth c b dC dI cyI cyJ cyZ cyO) (hX9 : va_X b L xs s s.heap) (hL : L ≤ 3072) (hi : i + 6 ≤ L) {T : Tn} {pd : Pd} {im : Nat → Option Tn} {x mm : Nat} {X M : va_W} {H : Heap} {locs : List Loc} {ls : Array Slot} (hXI : XIv cyI cyJ cyZ cyO T pd im x X) (hMI : MIv cyI cyJ cyZ cyO T pd im mm M) (h2 : tw (dC, dI) vwCl (fun q : Nat => s.heap.size ≤ q) X M H) (hS : va_S (fun q : Nat => s.heap.size ≤ q) s.heap H locs) (hl : lv_has ls 4 [(0, .ref b), (1, .ref x), (2, .ref mm), (3, .int (nI i))]) (K : ∀ (T : Tn) (pd : Pd) (im : Nat → Option Tn) (X M : va_W) (H : Heap) (locs : List Loc), XIv cyI cyJ cyZ cyO T pd im x X → MIv cyI cyJ cyZ cyO T pd im mm M → tw (dC, dI) vwCl (fun q : Nat => s.heap.size ≤ q) X M H → va_S (fun q : Nat => s.heap.size ≤ q) s.heap H locs → W p l e room_1 s m #[Value.ref b] below meth c H locs 68 29652 Z (F0 m 940 ls [])) : W p l e room_1 s m #[Value.ref b] below meth c H locs 68 29652 Z (F0 m 215 ls []) := by
  obtain ⟨hx, hb, hml, hown, hts, hr, hlocks, hK, hN, hbl⟩ := id C0
  have hbA : ¬ (fun q : Nat => s.heap.size ≤ q) b := Nat.not_le.mpr hbl
  refine lv_aload_n hx hb dL_law_215 rfl (lv_at hl 1 rfl) ?_
  refine lv_aload_n hx hb dL_law_216 rfl (lv_at hl 0 rfl) ?_
  refine lv_iload_n hx hb dL_law_217 rfl (lv_at hl 3 rfl) ?_
  refine lv_iconst (v := 1) hx hb dL_law_218 (by decide) ?_
  refine lv_iadd hx hb dL_law_219 ?_
  refine va_sld hx hb hX9 hbl hbA hS (inK hi hL (k := 1) (by decide) rfl) dL_law_220 ?_
  refine lX_say C0 hXI h2 hS hl.1 _ (fun X H locs hXI h2 hS => ?_)
  refine lv_aload_n hx hb dL_law_224 rfl (lv_at hl 2 rfl) ?_
  refine lv_aload_n hx hb dL_law_225 rfl (lv_at hl 0 rfl) ?_
  refine lv_iload_n hx hb dL_law_226 rfl (lv_at hl 3 rfl) ?_
  refine lv_iconst (v := 1) hx hb dL_law_227 (by decide) ?_
  refine lv_iadd hx hb dL_law_228 ?_
  refine va_sld hx hb hX9 hbl hbA hS (inK hi hL (k := 1) (by decide) rfl) dL_law_229 ?_
  refine lM_say C0 hMI h2.swap hS hl.1 _ _ (fun M H locs hMI h2 hS => ?_)
  exact lv_icmp_eq (tgt := 940) hx hb dL_law_233 (by decide) (fun _ => K _ _ _ _ _ _ _ hXI hMI h2.swap hS) (fun h9 => absurd rfl h9)
set_option maxHeartbeats 4000000 in
set_option maxRecDepth 100000 in
theorem lk_wipe {p : Program} {l : Launch} {e : Env} {s : State} {m : MethodId} {below : List Frame} {meth : Method} {c : Code} {b : Addr} {dC : Nat → ClassId} {dI : Nat → Nat → Nat} {cyI cyJ cyZ cyO : ClassId} {Z : State → Prop} {L : Nat} {xs : Nat → Int32} {i : Nat} (C0 : lwC p s m meth c b dC dI cyI cyJ cyZ cyO) (hX9 : va_X b L xs s s.heap) (hL : L ≤ 3072) (hi : i + 6 ≤ L) {T : Tn} {pd : Pd} {im : Nat → Option Tn} {x mm : Nat} {X M : va_W} {H : Heap} {locs : List Loc} {ls : Array Slot} (hXI : XIv cyI cyJ cyZ cyO T pd im x X) (hMI : MIv cyI cyJ cyZ cyO T pd im mm M) (h2 : tw (dC, dI) vwCl (fun q : Nat => s.heap.size ≤ q) X M H) (hS : va_S (fun q : Nat => s.heap.size ≤ q) s.heap H locs) (hl : lv_has ls 4 [(0, .ref b), (1, .ref x), (2, .ref mm), (3, .int (nI i))]) (K : ∀ (T : Tn) (pd : Pd) (im : Nat → Option Tn) (X M : va_W) (H : Heap) (locs : List Loc), XIv cyI cyJ cyZ cyO T pd im x X → MIv cyI cyJ cyZ cyO T pd im mm M → tw (dC, dI) vwCl (fun q : Nat => s.heap.size ≤ q) X M H → va_S (fun q : Nat => s.heap.size ≤ q) s.heap H locs → W p l e room_1 s m #[Value.ref b] below meth c H locs 68 29652 Z (F0 m 940 ls [])) : W p l e room_1 s m #[Value.ref b] below meth c H locs 68 29652 Z (F0 m 238 ls []) := by
  obtain ⟨hx, hb, hml, hown, hts, hr, hlocks, hK, hN, hbl⟩ := id C0
  have hbA : ¬ (fun q : Nat => s.heap.size ≤ q) b := Nat.not_le.mpr hbl
  refine lv_aload_n hx hb dL_law_238 rfl (lv_at hl 1 rfl) ?_
  refine lX_wipe C0 hXI h2 hS hl.1 (fun X H locs hXI h2 hS => ?_)
  refine lv_aload_n hx hb dL_law_242 rfl (lv_at hl 2 rfl) ?_
  refine lM_wipe C0 hMI h2.swap hS hl.1 _ (fun M H locs hMI h2 hS => ?_)
  exact lv_icmp_eq (tgt := 940) hx hb dL_law_246 (by decide) (fun _ => K _ _ _ _ _ _ _ hXI hMI h2.swap hS) (fun h9 => absurd rfl h9)
set_option maxHeartbeats 4000000 in
set_option maxRecDepth 100000 in
theorem lk_fault {p : Program} {l : Launch} {e : Env} {s : State} {m : MethodId} {below : List Frame} {meth : Method} {c : Code} {b : Addr} {dC : Nat → ClassId} {dI : Nat → Nat → Nat} {cyI cyJ cyZ cyO : ClassId} {Z : State → Prop} {L : Nat} {xs : Nat → Int32} {i : Nat} (C0 : lwC p s m meth c b dC dI cyI cyJ cyZ cyO) (hX9 : va_X b L xs s s.heap) (hL : L ≤ 3072) (hi : i + 6 ≤ L) {T : Tn} {pd : Pd} {im : Nat → Option Tn} {x mm : Nat} {X M : va_W} {H : Heap} {locs : List Loc} {ls : Array Slot} (hXI : XIv cyI cyJ cyZ cyO T pd im x X) (hMI : MIv cyI cyJ cyZ cyO T pd im mm M) (h2 : tw (dC, dI) vwCl (fun q : Nat => s.heap.size ≤ q) X M H) (hS : va_S (fun q : Nat => s.heap.size ≤ q) s.heap H locs) (hl : lv_has ls 4 [(0, .ref b), (1, .ref x), (2, .ref mm), (3, .int (nI i))]) (K : ∀ (T : Tn) (pd : Pd) (im : Nat → Option Tn) (X M : va_W) (H : Heap) (locs : List Loc), XIv cyI cyJ cyZ cyO T pd im x X → MIv cyI cyJ cyZ cyO T pd im mm M → tw (dC, dI) vwCl (fun q : Nat => s.heap.size ≤ q) X M H → va_S (fun q : Nat => s.heap.size ≤ q) s.heap H locs → W p l e room_1 s m #[Value.ref b] below meth c H locs 68 29652 Z (F0 m 940 ls [])) : W p l e room_1 s m #[Value.ref b] below meth c H locs 68 29652 Z (F0 m 251 ls []) := by
  obtain ⟨hx, hb, hml, hown, hts, hr, hlocks, hK, hN, hbl⟩ := id C0
  have hbA : ¬ (fun q : Nat => s.heap.size ≤ q) b := Nat.not_le.mpr hbl
  refine lv_aload_n hx hb dL_law_251 rfl (lv_at hl 1 rfl) ?_
  refine lX_fault C0 hXI h2 hS hl.1 (fun X H locs hXI h2 hS => ?_)
  refine lv_aload_n hx hb dL_law_255 rfl (lv_at hl 2 rfl) ?_
  refine lM_fault C0 hMI h2.swap hS hl.1 _ (fun M H locs hMI h2 hS => ?_)
  exact lv_icmp_eq (tgt := 940) hx hb dL_law_259 (by decide) (fun _ => K _ _ _ _ _ _ _ hXI hMI h2.swap hS) (fun h9 => absurd rfl h9)
set_option maxHeartbeats 4000000 in
set_option maxRecDepth 100000 in
theorem lk_basket {p : Program} {l : Launch} {e : Env} {s : State} {m : MethodId} {below : List Frame} {meth : Method} {c : Code} {b : Addr} {dC : Nat → ClassId} {dI : Nat → Nat → Nat} {cyI cyJ cyZ cyO : ClassId} {Z : State → Prop} {L : Nat} {xs : Nat → Int32} {i : Nat} (C0 : lwC p s m meth c b dC dI cyI cyJ cyZ cyO) (hX9 : va_X b L xs s s.heap) (hL : L ≤ 3072) (hi : i + 6 ≤ L) {T : Tn} {pd : Pd} {im : Nat → Option Tn} {x mm : Nat} {X M : va_W} {H : Heap} {locs : List Loc} {ls : Array Slot} (hXI : XIv cyI cyJ cyZ cyO T pd im x X) (hMI : MIv cyI cyJ cyZ cyO T pd im mm M) (h2 : tw (dC, dI) vwCl (fun q : Nat => s.heap.size ≤ q) X M H) (hS : va_S (fun q : Nat => s.heap.size ≤ q) s.heap H locs) (hl : lv_has ls 4 [(0, .ref b), (1, .ref x), (2, .ref mm), (3, .int (nI i))]) (K : ∀ (T : Tn) (pd : Pd) (im : Nat → Option Tn) (X M : va_W) (H : Heap) (locs : List Loc), XIv cyI cyJ cyZ cyO T pd im x X → MIv cyI cyJ cyZ cyO T pd im mm M → tw (dC, dI) vwCl (fun q : Nat => s.heap.size ≤ q) X M H → va_S (fun q : Nat => s.heap.size ≤ q) s.heap H locs → W p l e room_1 s m #[Value.ref b] below meth c H locs 68 29652 Z (F0 m 940 ls [])) : W p l e room_1 s m #[Value.ref b] below meth c H locs 68 29652 Z (F0 m 264 ls []) := by
  obtain ⟨hx, hb, hml, hown, hts, hr, hlocks, hK, hN, hbl⟩ := id C0
  have hbA : ¬ (fun q : Nat => s.heap.size ≤ q) b := Nat.not_le.mpr hbl
  refine lv_aload_n hx hb dL_law_264 rfl (lv_at hl 1 rfl) ?_
  refine lv_aload_n hx hb dL_law_265 rfl (lv_at hl 0 rfl) ?_
  refine lv_iload_n hx hb dL_law_266 rfl (lv_at hl 3 rfl) ?_
  refine lv_iconst (v := 1) hx hb dL_law_267 (by decide) ?_
  refine lv_iadd hx hb dL_law_268 ?_
  refine va_sld hx hb hX9 hbl hbA hS (inK hi hL (k := 1) (by decide) rfl) dL_law_269 ?_
  refine lX_basket C0 hXI h2 hS hl.1 _ (fun X H locs hXI h2 hS => ?_)
  refine lv_aload_n hx hb dL_law_273 rfl (lv_at hl 2 rfl) ?_
  refine lv_aload_n hx hb dL_law_274 rfl (lv_at hl 0 rfl) ?_
  refine lv_iload_n hx hb dL_law_275 rfl (lv_at hl 3 rfl) ?_
  refine lv_iconst (v := 1) hx hb dL_law_276 (by decide) ?_
  refine lv_iadd hx hb dL_law_277 ?_
  refine va_sld hx hb hX9 hbl hbA hS (inK hi hL (k := 1) (by decide) rfl) dL_law_278 ?_
  refine lM_basket C0 hMI h2.swap hS hl.1 _ _ (fun M H locs hMI h2 hS => ?_)
  exact lv_icmp_eq (tgt := 940) hx hb dL_law_282 (by decide) (fun _ => K _ _ _ _ _ _ _ hXI hMI h2.swap hS) (fun h9 => absurd rfl h9)
set_option maxHeartbeats 4000000 in
set_option maxRecDepth 100000 in
theorem lk_ways {p : Program} {l : Launch} {e : Env} {s : State} {m : MethodId} {below : List Frame} {meth : Method} {c : Code} {b : Addr} {dC : Nat → ClassId} {dI : Nat → Nat → Nat} {cyI cyJ cyZ cyO : ClassId} {Z : State → Prop} {L : Nat} {xs : Nat → Int32} {i : Nat} (C0 : lwC p s m meth c b dC dI cyI cyJ cyZ cyO) (hX9 : va_X b L xs s s.heap) (hL : L ≤ 3072) (hi : i + 6 ≤ L) {T : Tn} {pd : Pd} {im : Nat → Option Tn} {x mm : Nat} {X M : va_W} {H : Heap} {locs : List Loc} {ls : Array Slot} (hXI : XIv cyI cyJ cyZ cyO T pd im x X) (hMI : MIv cyI cyJ cyZ cyO T pd im mm M) (h2 : tw (dC, dI) vwCl (fun q : Nat => s.heap.size ≤ q) X M H) (hS : va_S (fun q : Nat => s.heap.size ≤ q) s.heap H locs) (hl : lv_has ls 4 [(0, .ref b), (1, .ref x), (2, .ref mm), (3, .int (nI i))]) (K : ∀ (T : Tn) (pd : Pd) (im : Nat → Option Tn) (X M : va_W) (H : Heap) (locs : List Loc), XIv cyI cyJ cyZ cyO T pd im x X → MIv cyI cyJ cyZ cyO T pd im mm M → tw (dC, dI) vwCl (fun q : Nat => s.heap.size ≤ q) X M H → va_S (fun q : Nat => s.heap.size ≤ q) s.heap H locs → W p l e room_1 s m #[Value.ref b] below meth c H locs 68 29652 Z (F0 m 940 ls [])) : W p l e room_1 s m #[Value.ref b] below meth c H locs 68 29652 Z (F0 m 287 ls []) := by
  obtain ⟨hx, hb, hml, hown, hts, hr, hlocks, hK, hN, hbl⟩ := id C0
  have hbA : ¬ (fun q : Nat => s.heap.size ≤ q) b := Nat.not_le.mpr hbl
  refine lv_aload_n hx hb dL_law_287 rfl (lv_at hl 1 rfl) ?_
  refine lv_aload_n hx hb dL_law_288 rfl (lv_at hl 0 rfl) ?_
  refine lv_iload_n hx hb dL_law_289 rfl (lv_at hl 3 rfl) ?_
  refine lv_iconst (v := 1) hx hb dL_law_290 (by decide) ?_
  refine lv_iadd hx hb dL_law_291 ?_
  refine va_sld hx hb hX9 hbl hbA hS (inK hi hL (k := 1) (by decide) rfl) dL_law_292 ?_
  refine lX_ways C0 hXI h2 hS hl.1 _ (fun X H locs hXI h2 hS => ?_)
  refine lv_aload_n hx hb dL_law_296 rfl (lv_at hl 2 rfl) ?_
  refine lv_aload_n hx hb dL_law_297 rfl (lv_at hl 0 rfl) ?_
  refine lv_iload_n hx hb dL_law_298 rfl (lv_at hl 3 rfl) ?_
  refine lv_iconst (v := 1) hx hb dL_law_299 (by decide) ?_
  refine lv_iadd hx hb dL_law_300 ?_
  refine va_sld hx hb hX9 hbl hbA hS (inK hi hL (k := 1) (by decide) rfl) dL_law_301 ?_
  refine lM_ways C0 hMI h2.swap hS hl.1 _ _ (fun M H locs hMI h2 hS => ?_)
  exact lv_icmp_eq (tgt := 940) hx hb dL_law_305 (by decide) (fun _ => K _ _ _ _ _ _ _ hXI hMI h2.swap hS) (fun h9 => absurd rfl h9)
set_option maxHeartbeats 4000000 in
set_option maxRecDepth 100000 in
theorem lk_best {p : Program} {l : Launch} {e : Env} {s : State} {m : MethodId} {below : List Frame} {meth : Method} {c : Code} {b : Addr} {dC : Nat → ClassId} {dI : Nat → Nat → Nat} {cyI cyJ cyZ cyO : ClassId} {Z : State → Prop} {L : Nat} {xs : Nat → Int32} {i : Nat} (C0 : lwC p s m meth c b dC dI cyI cyJ cyZ cyO) (hX9 : va_X b L xs s s.heap) (hL : L ≤ 3072) (hi : i + 6 ≤ L) {T : Tn} {pd : Pd} {im : Nat → Option Tn} {x mm : Nat} {X M : va_W} {H : Heap} {locs : List Loc} {ls : Array Slot} (hXI : XIv cyI cyJ cyZ cyO T pd im x X) (hMI : MIv cyI cyJ cyZ cyO T pd im mm M) (h2 : tw (dC, dI) vwCl (fun q : Nat => s.heap.size ≤ q) X M H) (hS : va_S (fun q : Nat => s.heap.size ≤ q) s.heap H locs) (hl : lv_has ls 4 [(0, .ref b), (1, .ref x), (2, .ref mm), (3, .int (nI i))]) (K : ∀ (T : Tn) (pd : Pd) (im : Nat → Option Tn) (X M : va_W) (H : Heap) (locs : List Loc), XIv cyI cyJ cyZ cyO T pd im x X → MIv cyI cyJ cyZ cyO T pd im mm M → tw (dC, dI) vwCl (fun q : Nat => s.heap.size ≤ q) X M H → va_S (fun q : Nat => s.heap.size ≤ q) s.heap H locs → W p l e room_1 s m #[Value.ref b] below meth c H locs 68 29652 Z (F0 m 940 ls [])) : W p l e room_1 s m #[Value.ref b] below meth c H locs 68 29652 Z (F0 m 310 ls []) := by
  obtain ⟨hx, hb, hml, hown, hts, hr, hlocks, hK, hN, hbl⟩ := id C0
  have hbA : ¬ (fun q : Nat => s.heap.size ≤ q) b := Nat.not_le.mpr hbl
  refine lv_aload_n hx hb dL_law_310 rfl (lv_at hl 1 rfl) ?_
  refine lv_aload_n hx hb dL_law_311 rfl (lv_at hl 0 rfl) ?_
  refine lv_iload_n hx hb dL_law_312 rfl (lv_at hl 3 rfl) ?_
  refine lv_iconst (v := 1) hx hb dL_law_313 (by decide) ?_
  refine lv_iadd hx hb dL_law_314 ?_
  refine va_sld hx hb hX9 hbl hbA hS (inK hi hL (k := 1) (by decide) rfl) dL_law_315 ?_
  refine lv_aload_n hx hb dL_law_316 rfl (lv_at hl 0 rfl) ?_
  refine lv_iload_n hx hb dL_law_317 rfl (lv_at hl 3 rfl) ?_
  refine lv_iconst (v := 2) hx hb dL_law_318 (by decide) ?_
  refine lv_iadd hx hb dL_law_319 ?_
  refine va_sld hx hb hX9 hbl hbA hS (inK hi hL (k := 2) (by decide) rfl) dL_law_320 ?_
  refine lX_best C0 hXI h2 hS hl.1 _ _ (fun X H locs hXI h2 hS => ?_)
  refine lv_aload_n hx hb dL_law_324 rfl (lv_at hl 2 rfl) ?_
  refine lv_aload_n hx hb dL_law_325 rfl (lv_at hl 0 rfl) ?_
  refine lv_iload_n hx hb dL_law_326 rfl (lv_at hl 3 rfl) ?_
  refine lv_iconst (v := 1) hx hb dL_law_327 (by decide) ?_
  refine lv_iadd hx hb dL_law_328 ?_
  refine va_sld hx hb hX9 hbl hbA hS (inK hi hL (k := 1) (by decide) rfl) dL_law_329 ?_
  refine lv_aload_n hx hb dL_law_330 rfl (lv_at hl 0 rfl) ?_
  refine lv_iload_n hx hb dL_law_331 rfl (lv_at hl 3 rfl) ?_
  refine lv_iconst (v := 2) hx hb dL_law_332 (by decide) ?_
  refine lv_iadd hx hb dL_law_333 ?_
  refine va_sld hx hb hX9 hbl hbA hS (inK hi hL (k := 2) (by decide) rfl) dL_law_334 ?_
  refine lM_best C0 hMI h2.swap hS hl.1 _ _ _ (fun M H locs hMI h2 hS => ?_)
  exact lv_icmp_eq (tgt := 940) hx hb dL_law_338 (by decide) (fun _ => K _ _ _ _ _ _ _ hXI hMI h2.swap hS) (fun h9 => absurd rfl h9)
set_option maxHeartbeats 4000000 in
set_option maxRecDepth 100000 in
theorem lk_stuck {p : Program} {l : Launch} {e : Env} {s : State} {m : MethodId} {below : List Frame} {meth : Method} {c : Code} {b : Addr} {dC : Nat → ClassId} {dI : Nat → Nat → Nat} {cyI cyJ cyZ cyO : ClassId} {Z : State → Prop} {L : Nat} {xs : Nat → Int32} {i : Nat} (C0 : lwC p s m meth c b dC dI cyI cyJ cyZ cyO) (hX9 : va_X b L xs s s.heap) (hL : L ≤ 3072) (hi : i + 6 ≤ L) {T : Tn} {pd : Pd} {im : Nat → Option Tn} {x mm : Nat} {X M : va_W} {H : Heap} {locs : List Loc} {ls : Array Slot} (hXI : XIv cyI cyJ cyZ cyO T pd im x X) (hMI : MIv cyI cyJ cyZ cyO T pd im mm M) (h2 : tw (dC, dI) vwCl (fun q : Nat => s.heap.size ≤ q) X M H) (hS : va_S (fun q : Nat => s.heap.size ≤ q) s.heap H locs) (hl : lv_has ls 4 [(0, .ref b), (1, .ref x), (2, .ref mm), (3, .int (nI i))]) (K : ∀ (T : Tn) (pd : Pd) (im : Nat → Option Tn) (X M : va_W) (H : Heap) (locs : List Loc), XIv cyI cyJ cyZ cyO T pd im x X → MIv cyI cyJ cyZ cyO T pd im mm M → tw (dC, dI) vwCl (fun q : Nat => s.heap.size ≤ q) X M H → va_S (fun q : Nat => s.heap.size ≤ q) s.heap H locs → W p l e room_1 s m #[Value.ref b] below meth c H locs 68 29652 Z (F0 m 940 ls [])) : W p l e room_1 s m #[Value.ref b] below meth c H locs 68 29652 Z (F0 m 343 ls []) := by
  obtain ⟨hx, hb, hml, hown, hts, hr, hlocks, hK, hN, hbl⟩ := id C0
  have hbA : ¬ (fun q : Nat => s.heap.size ≤ q) b := Nat.not_le.mpr hbl
  refine lv_aload_n hx hb dL_law_343 rfl (lv_at hl 1 rfl) ?_
  refine lv_aload_n hx hb dL_law_344 rfl (lv_at hl 0 rfl) ?_
  refine lv_iload_n hx hb dL_law_345 rfl (lv_at hl 3 rfl) ?_
  refine lv_iconst (v := 1) hx hb dL_law_346 (by decide) ?_
  refine lv_iadd hx hb dL_law_347 ?_
  refine va_sld hx hb hX9 hbl hbA hS (inK hi hL (k := 1) (by decide) rfl) dL_law_348 ?_
  refine lv_aload_n hx hb dL_law_349 rfl (lv_at hl 0 rfl) ?_
  refine lv_iload_n hx hb dL_law_350 rfl (lv_at hl 3 rfl) ?_
  refine lv_iconst (v := 2) hx hb dL_law_351 (by decide) ?_
  refine lv_iadd hx hb dL_law_352 ?_
  refine va_sld hx hb hX9 hbl hbA hS (inK hi hL (k := 2) (by decide) rfl) dL_law_353 ?_
  refine lv_aload_n hx hb dL_law_354 rfl (lv_at hl 0 rfl) ?_
  refine lv_iload_n hx hb dL_law_355 rfl (lv_at hl 3 rfl) ?_
  refine lv_iconst (v := 3) hx hb dL_law_356 (by decide) ?_
  refine lv_iadd hx hb dL_law_357 ?_
  refine va_sld hx hb hX9 hbl hbA hS (inK hi hL (k := 3) (by decide) rfl) dL_law_358 ?_
  refine lX_stuck C0 hXI h2 hS hl.1 _ _ _ (fun X H locs hXI h2 hS => ?_)
  refine lv_aload_n hx hb dL_law_362 rfl (lv_at hl 2 rfl) ?_
  refine lv_aload_n hx hb dL_law_363 rfl (lv_at hl 0 rfl) ?_
  refine lv_iload_n hx hb dL_law_364 rfl (lv_at hl 3 rfl) ?_
  refine lv_iconst (v := 1) hx hb dL_law_365 (by decide) ?_
  refine lv_iadd hx hb dL_law_366 ?_
  refine va_sld hx hb hX9 hbl hbA hS (inK hi hL (k := 1) (by decide) rfl) dL_law_367 ?_
  refine lv_aload_n hx hb dL_law_368 rfl (lv_at hl 0 rfl) ?_
  refine lv_iload_n hx hb dL_law_369 rfl (lv_at hl 3 rfl) ?_
  refine lv_iconst (v := 2) hx hb dL_law_370 (by decide) ?_
  refine lv_iadd hx hb dL_law_371 ?_
  refine va_sld hx hb hX9 hbl hbA hS (inK hi hL (k := 2) (by decide) rfl) dL_law_372 ?_
  refine lv_aload_n hx hb dL_law_373 rfl (lv_at hl 0 rfl) ?_
  refine lv_iload_n hx hb dL_law_374 rfl (lv_at hl 3 rfl) ?_
  refine lv_iconst (v := 3) hx hb dL_law_375 (by decide) ?_
  refine lv_iadd hx hb dL_law_376 ?_
  refine va_sld hx hb hX9 hbl hbA hS (inK hi hL (k := 3) (by decide) rfl) dL_law_377 ?_
  refine lM_stuck C0 hMI h2.swap hS hl.1 _ _ _ _ (fun M H locs hMI h2 hS => ?_)
  exact lv_icmp_eq (tgt := 940) hx hb dL_law_381 (by decide) (fun _ => K _ _ _ _ _ _ _ hXI hMI h2.swap hS) (fun h9 => absurd rfl h9)
set_option maxHeartbeats 4000000 in
set_option maxRecDepth 100000 in
theorem lk_near {p : Program} {l : Launch} {e : Env} {s : State} {m : MethodId} {below : List Frame} {meth : Method} {c : Code} {b : Addr} {dC : Nat → ClassId} {dI : Nat → Nat → Nat} {cyI cyJ cyZ cyO : ClassId} {Z : State → Prop} {L : Nat} {xs : Nat → Int32} {i : Nat} (C0 : lwC p s m meth c b dC dI cyI cyJ cyZ cyO) (hX9 : va_X b L xs s s.heap) (hL : L ≤ 3072) (hi : i + 6 ≤ L) {T : Tn} {pd : Pd} {im : Nat → Option Tn} {x mm : Nat} {X M : va_W} {H : Heap} {locs : List Loc} {ls : Array Slot} (hXI : XIv cyI cyJ cyZ cyO T pd im x X) (hMI : MIv cyI cyJ cyZ cyO T pd im mm M) (h2 : tw (dC, dI) vwCl (fun q : Nat => s.heap.size ≤ q) X M H) (hS : va_S (fun q : Nat => s.heap.size ≤ q) s.heap H locs) (hl : lv_has ls 4 [(0, .ref b), (1, .ref x), (2, .ref mm), (3, .int (nI i))]) (K : ∀ (T : Tn) (pd : Pd) (im : Nat → Option Tn) (X M : va_W) (H : Heap) (locs : List Loc), XIv cyI cyJ cyZ cyO T pd im x X → MIv cyI cyJ cyZ cyO T pd im mm M → tw (dC, dI) vwCl (fun q : Nat => s.heap.size ≤ q) X M H → va_S (fun q : Nat => s.heap.size ≤ q) s.heap H locs → W p l e room_1 s m #[Value.ref b] below meth c H locs 68 29652 Z (F0 m 940 ls [])) : W p l e room_1 s m #[Value.ref b] below meth c H locs 68 29652 Z (F0 m 386 ls []) := by
  obtain ⟨hx, hb, hml, hown, hts, hr, hlocks, hK, hN, hbl⟩ := id C0
  have hbA : ¬ (fun q : Nat => s.heap.size ≤ q) b := Nat.not_le.mpr hbl
  refine lv_aload_n hx hb dL_law_386 rfl (lv_at hl 1 rfl) ?_
  refine lv_aload_n hx hb dL_law_387 rfl (lv_at hl 0 rfl) ?_
  refine lv_iload_n hx hb dL_law_388 rfl (lv_at hl 3 rfl) ?_
  refine lv_iconst (v := 1) hx hb dL_law_389 (by decide) ?_
  refine lv_iadd hx hb dL_law_390 ?_
  refine va_sld hx hb hX9 hbl hbA hS (inK hi hL (k := 1) (by decide) rfl) dL_law_391 ?_
  refine lv_aload_n hx hb dL_law_392 rfl (lv_at hl 0 rfl) ?_
  refine lv_iload_n hx hb dL_law_393 rfl (lv_at hl 3 rfl) ?_
  refine lv_iconst (v := 2) hx hb dL_law_394 (by decide) ?_
  refine lv_iadd hx hb dL_law_395 ?_
  refine va_sld hx hb hX9 hbl hbA hS (inK hi hL (k := 2) (by decide) rfl) dL_law_396 ?_
  refine lX_near C0 hXI h2 hS hl.1 _ _ (fun X H locs hXI h2 hS => ?_)
  refine lv_aload_n hx hb dL_law_400 rfl (lv_at hl 2 rfl) ?_
  refine lv_aload_n hx hb dL_law_401 rfl (lv_at hl 0 rfl) ?_
  refine lv_iload_n hx hb dL_law_402 rfl (lv_at hl 3 rfl) ?_
  refine lv_iconst (v := 1) hx hb dL_law_403 (by decide) ?_
  refine lv_iadd hx hb dL_law_404 ?_
  refine va_sld hx hb hX9 hbl hbA hS (inK hi hL (k := 1) (by decide) rfl) dL_law_405 ?_
  refine lv_aload_n hx hb dL_law_406 rfl (lv_at hl 0 rfl) ?_
  refine lv_iload_n hx hb dL_law_407 rfl (lv_at hl 3 rfl) ?_
  refine lv_iconst (v := 2) hx hb dL_law_408 (by decide) ?_
  refine lv_iadd hx hb dL_law_409 ?_
  refine va_sld hx hb hX9 hbl hbA hS (inK hi hL (k := 2) (by decide) rfl) dL_law_410 ?_
  refine lM_near C0 hMI h2.swap hS hl.1 _ _ _ (fun M H locs hMI h2 hS => ?_)
  exact lv_icmp_eq (tgt := 940) hx hb dL_law_414 (by decide) (fun _ => K _ _ _ _ _ _ _ hXI hMI h2.swap hS) (fun h9 => absurd rfl h9)
set_option maxHeartbeats 4000000 in
set_option maxRecDepth 100000 in
theorem lk_endless {p : Program} {l : Launch} {e : Env} {s : State} {m : MethodId} {below : List Frame} {meth : Method} {c : Code} {b : Addr} {dC : Nat → ClassId} {dI : Nat → Nat → Nat} {cyI cyJ cyZ cyO : ClassId} {Z : State → Prop} {L : Nat} {xs : Nat → Int32} {i : Nat} (C0 : lwC p s m meth c b dC dI cyI cyJ cyZ cyO) (hX9 : va_X b L xs s s.heap) (hL : L ≤ 3072) (hi : i + 6 ≤ L) {T : Tn} {pd : Pd} {im : Nat → Option Tn} {x mm : Nat} {X M : va_W} {H : Heap} {locs : List Loc} {ls : Array Slot} (hXI : XIv cyI cyJ cyZ cyO T pd im x X) (hMI : MIv cyI cyJ cyZ cyO T pd im mm M) (h2 : tw (dC, dI) vwCl (fun q : Nat => s.heap.size ≤ q) X M H) (hS : va_S (fun q : Nat => s.heap.size ≤ q) s.heap H locs) (hl : lv_has ls 4 [(0, .ref b), (1, .ref x), (2, .ref mm), (3, .int (nI i))]) (K : ∀ (T : Tn) (pd : Pd) (im : Nat → Option Tn) (X M : va_W) (H : Heap) (locs : List Loc), XIv cyI cyJ cyZ cyO T pd im x X → MIv cyI cyJ cyZ cyO T pd im mm M → tw (dC, dI) vwCl (fun q : Nat => s.heap.size ≤ q) X M H → va_S (fun q : Nat => s.heap.size ≤ q) s.heap H locs → W p l e room_1 s m #[Value.ref b] below meth c H locs 68 29652 Z (F0 m 940 ls [])) : W p l e room_1 s m #[Value.ref b] below meth c H locs 68 29652 Z (F0 m 419 ls []) := by
  obtain ⟨hx, hb, hml, hown, hts, hr, hlocks, hK, hN, hbl⟩ := id C0
  have hbA : ¬ (fun q : Nat => s.heap.size ≤ q) b := Nat.not_le.mpr hbl
  refine lv_aload_n hx hb dL_law_419 rfl (lv_at hl 1 rfl) ?_
  refine lv_aload_n hx hb dL_law_420 rfl (lv_at hl 0 rfl) ?_
  refine lv_iload_n hx hb dL_law_421 rfl (lv_at hl 3 rfl) ?_
  refine lv_iconst (v := 1) hx hb dL_law_422 (by decide) ?_
  refine lv_iadd hx hb dL_law_423 ?_
  refine va_sld hx hb hX9 hbl hbA hS (inK hi hL (k := 1) (by decide) rfl) dL_law_424 ?_
  refine lX_endless C0 hXI h2 hS hl.1 _ (fun X H locs hXI h2 hS => ?_)
  refine lv_aload_n hx hb dL_law_428 rfl (lv_at hl 2 rfl) ?_
  refine lv_aload_n hx hb dL_law_429 rfl (lv_at hl 0 rfl) ?_
  refine lv_iload_n hx hb dL_law_430 rfl (lv_at hl 3 rfl) ?_
  refine lv_iconst (v := 1) hx hb dL_law_431 (by decide) ?_
  refine lv_iadd hx hb dL_law_432 ?_
  refine va_sld hx hb hX9 hbl hbA hS (inK hi hL (k := 1) (by decide) rfl) dL_law_433 ?_
  refine lM_endless C0 hMI h2.swap hS hl.1 _ _ (fun M H locs hMI h2 hS => ?_)
  exact lv_icmp_eq (tgt := 940) hx hb dL_law_437 (by decide) (fun _ => K _ _ _ _ _ _ _ hXI hMI h2.swap hS) (fun h9 => absurd rfl h9)
set_option maxHeartbeats 4000000 in
set_option maxRecDepth 100000 in
theorem lk_pins {p : Program} {l : Launch} {e : Env} {s : State} {m : MethodId} {below : List Frame} {meth : Method} {c : Code} {b : Addr} {dC : Nat → ClassId} {dI : Nat → Nat → Nat} {cyI cyJ cyZ cyO : ClassId} {Z : State → Prop} {L : Nat} {xs : Nat → Int32} {i : Nat} (C0 : lwC p s m meth c b dC dI cyI cyJ cyZ cyO) (hX9 : va_X b L xs s s.heap) (hL : L ≤ 3072) (hi : i + 6 ≤ L) {T : Tn} {pd : Pd} {im : Nat → Option Tn} {x mm : Nat} {X M : va_W} {H : Heap} {locs : List Loc} {ls : Array Slot} (hXI : XIv cyI cyJ cyZ cyO T pd im x X) (hMI : MIv cyI cyJ cyZ cyO T pd im mm M) (h2 : tw (dC, dI) vwCl (fun q : Nat => s.heap.size ≤ q) X M H) (hS : va_S (fun q : Nat => s.heap.size ≤ q) s.heap H locs) (hl : lv_has ls 4 [(0, .ref b), (1, .ref x), (2, .ref mm), (3, .int (nI i))]) (K : ∀ (T : Tn) (pd : Pd) (im : Nat → Option Tn) (X M : va_W) (H : Heap) (locs : List Loc), XIv cyI cyJ cyZ cyO T pd im x X → MIv cyI cyJ cyZ cyO T pd im mm M → tw (dC, dI) vwCl (fun q : Nat => s.heap.size ≤ q) X M H → va_S (fun q : Nat => s.heap.size ≤ q) s.heap H locs → W p l e room_1 s m #[Value.ref b] below meth c H locs 68 29652 Z (F0 m 940 ls [])) : W p l e room_1 s m #[Value.ref b] below meth c H locs 68 29652 Z (F0 m 442 ls []) := by
  obtain ⟨hx, hb, hml, hown, hts, hr, hlocks, hK, hN, hbl⟩ := id C0
  have hbA : ¬ (fun q : Nat => s.heap.size ≤ q) b := Nat.not_le.mpr hbl
  refine lv_aload_n hx hb dL_law_442 rfl (lv_at hl 1 rfl) ?_
  refine lv_aload_n hx hb dL_law_443 rfl (lv_at hl 0 rfl) ?_
  refine lv_iload_n hx hb dL_law_444 rfl (lv_at hl 3 rfl) ?_
  refine lv_iconst (v := 1) hx hb dL_law_445 (by decide) ?_
  refine lv_iadd hx hb dL_law_446 ?_
  refine va_sld hx hb hX9 hbl hbA hS (inK hi hL (k := 1) (by decide) rfl) dL_law_447 ?_
  refine lX_pins C0 hXI h2 hS hl.1 _ (fun X H locs hXI h2 hS => ?_)
  refine lv_aload_n hx hb dL_law_451 rfl (lv_at hl 2 rfl) ?_
  refine lv_aload_n hx hb dL_law_452 rfl (lv_at hl 0 rfl) ?_
  refine lv_iload_n hx hb dL_law_453 rfl (lv_at hl 3 rfl) ?_
  refine lv_iconst (v := 1) hx hb dL_law_454 (by decide) ?_
  refine lv_iadd hx hb dL_law_455 ?_
  refine va_sld hx hb hX9 hbl hbA hS (inK hi hL (k := 1) (by decide) rfl) dL_law_456 ?_
  refine lM_pins C0 hMI h2.swap hS hl.1 _ _ (fun M H locs hMI h2 hS => ?_)
  exact lv_icmp_eq (tgt := 940) hx hb dL_law_460 (by decide) (fun _ => K _ _ _ _ _ _ _ hXI hMI h2.swap hS) (fun h9 => absurd rfl h9)
set_option maxHeartbeats 4000000 in
set_option maxRecDepth 100000 in
theorem lk_weeks {p : Program} {l : Launch} {e : Env} {s : State} {m : MethodId} {below : List Frame} {meth : Method} {c : Code} {b : Addr} {dC : Nat → ClassId} {dI : Nat → Nat → Nat} {cyI cyJ cyZ cyO : ClassId} {Z : State → Prop} {L : Nat} {xs : Nat → Int32} {i : Nat} (C0 : lwC p s m meth c b dC dI cyI cyJ cyZ cyO) (hX9 : va_X b L xs s s.heap) (hL : L ≤ 3072) (hi : i + 6 ≤ L) {T : Tn} {pd : Pd} {im : Nat → Option Tn} {x mm : Nat} {X M : va_W} {H : Heap} {locs : List Loc} {ls : Array Slot} (hXI : XIv cyI cyJ cyZ cyO T pd im x X) (hMI : MIv cyI cyJ cyZ cyO T pd im mm M) (h2 : tw (dC, dI) vwCl (fun q : Nat => s.heap.size ≤ q) X M H) (hS : va_S (fun q : Nat => s.heap.size ≤ q) s.heap H locs) (hl : lv_has ls 4 [(0, .ref b), (1, .ref x), (2, .ref mm), (3, .int (nI i))]) (K : ∀ (T : Tn) (pd : Pd) (im : Nat → Option Tn) (X M : va_W) (H : Heap) (locs : List Loc), XIv cyI cyJ cyZ cyO T pd im x X → MIv cyI cyJ cyZ cyO T pd im mm M → tw (dC, dI) vwCl (fun q : Nat => s.heap.size ≤ q) X M H → va_S (fun q : Nat => s.heap.size ≤ q) s.heap H locs → W p l e room_1 s m #[Value.ref b] below meth c H locs 68 29652 Z (F0 m 940 ls [])) : W p l e room_1 s m #[Value.ref b] below meth c H locs 68 29652 Z (F0 m 465 ls []) := by
  obtain ⟨hx, hb, hml, hown, hts, hr, hlocks, hK, hN, hbl⟩ := id C0
  have hbA : ¬ (fun q : Nat => s.heap.size ≤ q) b := Nat.not_le.mpr hbl
  refine lv_aload_n hx hb dL_law_465 rfl (lv_at hl 1 rfl) ?_
  refine lv_aload_n hx hb dL_law_466 rfl (lv_at hl 0 rfl) ?_
  refine lv_iload_n hx hb dL_law_467 rfl (lv_at hl 3 rfl) ?_
  refine lv_iconst (v := 1) hx hb dL_law_468 (by decide) ?_
  refine lv_iadd hx hb dL_law_469 ?_
  refine va_sld hx hb hX9 hbl hbA hS (inK hi hL (k := 1) (by decide) rfl) dL_law_470 ?_
  refine lv_aload_n hx hb dL_law_471 rfl (lv_at hl 0 rfl) ?_
  refine lv_iload_n hx hb dL_law_472 rfl (lv_at hl 3 rfl) ?_
  refine lv_iconst (v := 2) hx hb dL_law_473 (by decide) ?_
  refine lv_iadd hx hb dL_law_474 ?_
  refine va_sld hx hb hX9 hbl hbA hS (inK hi hL (k := 2) (by decide) rfl) dL_law_475 ?_
  refine lX_weeks C0 hXI h2 hS hl.1 _ _ (fun X H locs hXI h2 hS => ?_)
  refine lv_aload_n hx hb dL_law_479 rfl (lv_at hl 2 rfl) ?_
  refine lv_aload_n hx hb dL_law_480 rfl (lv_at hl 0 rfl) ?_
  refine lv_iload_n hx hb dL_law_481 rfl (lv_at hl 3 rfl) ?_
  refine lv_iconst (v := 1) hx hb dL_law_482 (by decide) ?_
  refine lv_iadd hx hb dL_law_483 ?_
  refine va_sld hx hb hX9 hbl hbA hS (inK hi hL (k := 1) (by decide) rfl) dL_law_484 ?_
  refine lv_aload_n hx hb dL_law_485 rfl (lv_at hl 0 rfl) ?_
  refine lv_iload_n hx hb dL_law_486 rfl (lv_at hl 3 rfl) ?_
  refine lv_iconst (v := 2) hx hb dL_law_487 (by decide) ?_
  refine lv_iadd hx hb dL_law_488 ?_
  refine va_sld hx hb hX9 hbl hbA hS (inK hi hL (k := 2) (by decide) rfl) dL_law_489 ?_
  refine lM_weeks C0 hMI h2.swap hS hl.1 _ _ _ (fun M H locs hMI h2 hS => ?_)
  exact lv_icmp_eq (tgt := 940) hx hb dL_law_493 (by decide) (fun _ => K _ _ _ _ _ _ _ hXI hMI h2.swap hS) (fun h9 => absurd rfl h9)
set_option maxHeartbeats 4000000 in
set_option maxRecDepth 100000 in
theorem lk_purse {p : Program} {l : Launch} {e : Env} {s : State} {m : MethodId} {below : List Frame} {meth : Method} {c : Code} {b : Addr} {dC : Nat → ClassId} {dI : Nat → Nat → Nat} {cyI cyJ cyZ cyO : ClassId} {Z : State → Prop} {L : Nat} {xs : Nat → Int32} {i : Nat} (C0 : lwC p s m meth c b dC dI cyI cyJ cyZ cyO) (hX9 : va_X b L xs s s.heap) (hL : L ≤ 3072) (hi : i + 6 ≤ L) {T : Tn} {pd : Pd} {im : Nat → Option Tn} {x mm : Nat} {X M : va_W} {H : Heap} {locs : List Loc} {ls : Array Slot} (hXI : XIv cyI cyJ cyZ cyO T pd im x X) (hMI : MIv cyI cyJ cyZ cyO T pd im mm M) (h2 : tw (dC, dI) vwCl (fun q : Nat => s.heap.size ≤ q) X M H) (hS : va_S (fun q : Nat => s.heap.size ≤ q) s.heap H locs) (hl : lv_has ls 4 [(0, .ref b), (1, .ref x), (2, .ref mm), (3, .int (nI i))]) (K : ∀ (T : Tn) (pd : Pd) (im : Nat → Option Tn) (X M : va_W) (H : Heap) (locs : List Loc), XIv cyI cyJ cyZ cyO T pd im x X → MIv cyI cyJ cyZ cyO T pd im mm M → tw (dC, dI) vwCl (fun q : Nat => s.heap.size ≤ q) X M H → va_S (fun q : Nat => s.heap.size ≤ q) s.heap H locs → W p l e room_1 s m #[Value.ref b] below meth c H locs 68 29652 Z (F0 m 940 ls [])) : W p l e room_1 s m #[Value.ref b] below meth c H locs 68 29652 Z (F0 m 498 ls []) := by
  obtain ⟨hx, hb, hml, hown, hts, hr, hlocks, hK, hN, hbl⟩ := id C0
  have hbA : ¬ (fun q : Nat => s.heap.size ≤ q) b := Nat.not_le.mpr hbl
  refine lv_aload_n hx hb dL_law_498 rfl (lv_at hl 1 rfl) ?_
  refine lv_aload_n hx hb dL_law_499 rfl (lv_at hl 0 rfl) ?_
  refine lv_iload_n hx hb dL_law_500 rfl (lv_at hl 3 rfl) ?_
  refine lv_iconst (v := 1) hx hb dL_law_501 (by decide) ?_
  refine lv_iadd hx hb dL_law_502 ?_
  refine va_sld hx hb hX9 hbl hbA hS (inK hi hL (k := 1) (by decide) rfl) dL_law_503 ?_
  refine lv_aload_n hx hb dL_law_504 rfl (lv_at hl 0 rfl) ?_
  refine lv_iload_n hx hb dL_law_505 rfl (lv_at hl 3 rfl) ?_
  refine lv_iconst (v := 2) hx hb dL_law_506 (by decide) ?_
  refine lv_iadd hx hb dL_law_507 ?_
  refine va_sld hx hb hX9 hbl hbA hS (inK hi hL (k := 2) (by decide) rfl) dL_law_508 ?_
  refine lX_purse C0 hXI h2 hS hl.1 _ _ (fun X H locs hXI h2 hS => ?_)
  refine lv_aload_n hx hb dL_law_512 rfl (lv_at hl 2 rfl) ?_
  refine lv_aload_n hx hb dL_law_513 rfl (lv_at hl 0 rfl) ?_
  refine lv_iload_n hx hb dL_law_514 rfl (lv_at hl 3 rfl) ?_
  refine lv_iconst (v := 1) hx hb dL_law_515 (by decide) ?_
  refine lv_iadd hx hb dL_law_516 ?_
  refine va_sld hx hb hX9 hbl hbA hS (inK hi hL (k := 1) (by decide) rfl) dL_law_517 ?_
  refine lv_aload_n hx hb dL_law_518 rfl (lv_at hl 0 rfl) ?_
  refine lv_iload_n hx hb dL_law_519 rfl (lv_at hl 3 rfl) ?_
  refine lv_iconst (v := 2) hx hb dL_law_520 (by decide) ?_
  refine lv_iadd hx hb dL_law_521 ?_
  refine va_sld hx hb hX9 hbl hbA hS (inK hi hL (k := 2) (by decide) rfl) dL_law_522 ?_
  refine lM_purse C0 hMI h2.swap hS hl.1 _ _ _ (fun M H locs hMI h2 hS => ?_)
  exact lv_icmp_eq (tgt := 940) hx hb dL_law_526 (by decide) (fun _ => K _ _ _ _ _ _ _ hXI hMI h2.swap hS) (fun h9 => absurd rfl h9)
set_option maxHeartbeats 4000000 in
set_option maxRecDepth 100000 in
theorem lk_together {p : Program} {l : Launch} {e : Env} {s : State} {m : MethodId} {below : List Frame} {meth : Method} {c : Code} {b : Addr} {dC : Nat → ClassId} {dI : Nat → Nat → Nat} {cyI cyJ cyZ cyO : ClassId} {Z : State → Prop} {L : Nat} {xs : Nat → Int32} {i : Nat} (C0 : lwC p s m meth c b dC dI cyI cyJ cyZ cyO) (hX9 : va_X b L xs s s.heap) (hL : L ≤ 3072) (hi : i + 6 ≤ L) {T : Tn} {pd : Pd} {im : Nat → Option Tn} {x mm : Nat} {X M : va_W} {H : Heap} {locs : List Loc} {ls : Array Slot} (hXI : XIv cyI cyJ cyZ cyO T pd im x X) (hMI : MIv cyI cyJ cyZ cyO T pd im mm M) (h2 : tw (dC, dI) vwCl (fun q : Nat => s.heap.size ≤ q) X M H) (hS : va_S (fun q : Nat => s.heap.size ≤ q) s.heap H locs) (hl : lv_has ls 4 [(0, .ref b), (1, .ref x), (2, .ref mm), (3, .int (nI i))]) (K : ∀ (T : Tn) (pd : Pd) (im : Nat → Option Tn) (X M : va_W) (H : Heap) (locs : List Loc), XIv cyI cyJ cyZ cyO T pd im x X → MIv cyI cyJ cyZ cyO T pd im mm M → tw (dC, dI) vwCl (fun q : Nat => s.heap.size ≤ q) X M H → va_S (fun q : Nat => s.heap.size ≤ q) s.heap H locs → W p l e room_1 s m #[Value.ref b] below meth c H locs 68 29652 Z (F0 m 940 ls [])) : W p l e room_1 s m #[Value.ref b] below meth c H locs 68 29652 Z (F0 m 531 ls []) := by
  obtain ⟨hx, hb, hml, hown, hts, hr, hlocks, hK, hN, hbl⟩ := id C0
  have hbA : ¬ (fun q : Nat => s.heap.size ≤ q) b := Nat.not_le.mpr hbl
  refine lv_aload_n hx hb dL_law_531 rfl (lv_at hl 1 rfl) ?_
  refine lv_aload_n hx hb dL_law_532 rfl (lv_at hl 0 rfl) ?_
  refine lv_iload_n hx hb dL_law_533 rfl (lv_at hl 3 rfl) ?_
  refine lv_iconst (v := 1) hx hb dL_law_534 (by decide) ?_
  refine lv_iadd hx hb dL_law_535 ?_
  refine va_sld hx hb hX9 hbl hbA hS (inK hi hL (k := 1) (by decide) rfl) dL_law_536 ?_
  refine lX_together C0 hXI h2 hS hl.1 _ (fun X H locs hXI h2 hS => ?_)
  refine lv_aload_n hx hb dL_law_540 rfl (lv_at hl 2 rfl) ?_
  refine lv_aload_n hx hb dL_law_541 rfl (lv_at hl 0 rfl) ?_
  refine lv_iload_n hx hb dL_law_542 rfl (lv_at hl 3 rfl) ?_
  refine lv_iconst (v := 1) hx hb dL_law_543 (by decide) ?_
  refine lv_iadd hx hb dL_law_544 ?_
  refine va_sld hx hb hX9 hbl hbA hS (inK hi hL (k := 1) (by decide) rfl) dL_law_545 ?_
  refine lM_together C0 hMI h2.swap hS hl.1 _ _ (fun M H locs hMI h2 hS => ?_)
  exact lv_icmp_eq (tgt := 940) hx hb dL_law_549 (by decide) (fun _ => K _ _ _ _ _ _ _ hXI hMI h2.swap hS) (fun h9 => absurd rfl h9)
set_option maxHeartbeats 4000000 in
set_option maxRecDepth 100000 in
theorem lk_pays {p : Program} {l : Launch} {e : Env} {s : State} {m : MethodId} {below : List Frame} {meth : Method} {c : Code} {b : Addr} {dC : Nat → ClassId} {dI : Nat → Nat → Nat} {cyI cyJ cyZ cyO : ClassId} {Z : State → Prop} {L : Nat} {xs : Nat → Int32} {i : Nat} (C0 : lwC p s m meth c b dC dI cyI cyJ cyZ cyO) (hX9 : va_X b L xs s s.heap) (hL : L ≤ 3072) (hi : i + 6 ≤ L) {T : Tn} {pd : Pd} {im : Nat → Option Tn} {x mm : Nat} {X M : va_W} {H : Heap} {locs : List Loc} {ls : Array Slot} (hXI : XIv cyI cyJ cyZ cyO T pd im x X) (hMI : MIv cyI cyJ cyZ cyO T pd im mm M) (h2 : tw (dC, dI) vwCl (fun q : Nat => s.heap.size ≤ q) X M H) (hS : va_S (fun q : Nat => s.heap.size ≤ q) s.heap H locs) (hl : lv_has ls 4 [(0, .ref b), (1, .ref x), (2, .ref mm), (3, .int (nI i))]) (K : ∀ (T : Tn) (pd : Pd) (im : Nat → Option Tn) (X M : va_W) (H : Heap) (locs : List Loc), XIv cyI cyJ cyZ cyO T pd im x X → MIv cyI cyJ cyZ cyO T pd im mm M → tw (dC, dI) vwCl (fun q : Nat => s.heap.size ≤ q) X M H → va_S (fun q : Nat => s.heap.size ≤ q) s.heap H locs → W p l e room_1 s m #[Value.ref b] below meth c H locs 68 29652 Z (F0 m 940 ls [])) : W p l e room_1 s m #[Value.ref b] below meth c H locs 68 29652 Z (F0 m 554 ls []) := by
  obtain ⟨hx, hb, hml, hown, hts, hr, hlocks, hK, hN, hbl⟩ := id C0
  have hbA : ¬ (fun q : Nat => s.heap.size ≤ q) b := Nat.not_le.mpr hbl
  refine lv_aload_n hx hb dL_law_554 rfl (lv_at hl 1 rfl) ?_
  refine lv_aload_n hx hb dL_law_555 rfl (lv_at hl 0 rfl) ?_
  refine lv_iload_n hx hb dL_law_556 rfl (lv_at hl 3 rfl) ?_
  refine lv_iconst (v := 1) hx hb dL_law_557 (by decide) ?_
  refine lv_iadd hx hb dL_law_558 ?_
  refine va_sld hx hb hX9 hbl hbA hS (inK hi hL (k := 1) (by decide) rfl) dL_law_559 ?_
  refine lv_aload_n hx hb dL_law_560 rfl (lv_at hl 0 rfl) ?_
  refine lv_iload_n hx hb dL_law_561 rfl (lv_at hl 3 rfl) ?_
  refine lv_iconst (v := 2) hx hb dL_law_562 (by decide) ?_
  refine lv_iadd hx hb dL_law_563 ?_
  refine va_sld hx hb hX9 hbl hbA hS (inK hi hL (k := 2) (by decide) rfl) dL_law_564 ?_
  refine lX_pays C0 hXI h2 hS hl.1 _ _ (fun X H locs hXI h2 hS => ?_)
  refine lv_aload_n hx hb dL_law_568 rfl (lv_at hl 2 rfl) ?_
  refine lv_aload_n hx hb dL_law_569 rfl (lv_at hl 0 rfl) ?_
  refine lv_iload_n hx hb dL_law_570 rfl (lv_at hl 3 rfl) ?_
  refine lv_iconst (v := 1) hx hb dL_law_571 (by decide) ?_
  refine lv_iadd hx hb dL_law_572 ?_
  refine va_sld hx hb hX9 hbl hbA hS (inK hi hL (k := 1) (by decide) rfl) dL_law_573 ?_
  refine lv_aload_n hx hb dL_law_574 rfl (lv_at hl 0 rfl) ?_
  refine lv_iload_n hx hb dL_law_575 rfl (lv_at hl 3 rfl) ?_
  refine lv_iconst (v := 2) hx hb dL_law_576 (by decide) ?_
  refine lv_iadd hx hb dL_law_577 ?_
  refine va_sld hx hb hX9 hbl hbA hS (inK hi hL (k := 2) (by decide) rfl) dL_law_578 ?_
  refine lM_pays C0 hMI h2.swap hS hl.1 _ _ _ (fun M H locs hMI h2 hS => ?_)
  exact lv_icmp_eq (tgt := 940) hx hb dL_law_582 (by decide) (fun _ => K _ _ _ _ _ _ _ hXI hMI h2.swap hS) (fun h9 => absurd rfl h9)
set_option maxHeartbeats 4000000 in
set_option maxRecDepth 100000 in
theorem lk_wage {p : Program} {l : Launch} {e : Env} {s : State} {m : MethodId} {below : List Frame} {meth : Method} {c : Code} {b : Addr} {dC : Nat → ClassId} {dI : Nat → Nat → Nat} {cyI cyJ cyZ cyO : ClassId} {Z : State → Prop} {L : Nat} {xs : Nat → Int32} {i : Nat} (C0 : lwC p s m meth c b dC dI cyI cyJ cyZ cyO) (hX9 : va_X b L xs s s.heap) (hL : L ≤ 3072) (hi : i + 6 ≤ L) {T : Tn} {pd : Pd} {im : Nat → Option Tn} {x mm : Nat} {X M : va_W} {H : Heap} {locs : List Loc} {ls : Array Slot} (hXI : XIv cyI cyJ cyZ cyO T pd im x X) (hMI : MIv cyI cyJ cyZ cyO T pd im mm M) (h2 : tw (dC, dI) vwCl (fun q : Nat => s.heap.size ≤ q) X M H) (hS : va_S (fun q : Nat => s.heap.size ≤ q) s.heap H locs) (hl : lv_has ls 4 [(0, .ref b), (1, .ref x), (2, .ref mm), (3, .int (nI i))]) (K : ∀ (T : Tn) (pd : Pd) (im : Nat → Option Tn) (X M : va_W) (H : Heap) (locs : List Loc), XIv cyI cyJ cyZ cyO T pd im x X → MIv cyI cyJ cyZ cyO T pd im mm M → tw (dC, dI) vwCl (fun q : Nat => s.heap.size ≤ q) X M H → va_S (fun q : Nat => s.heap.size ≤ q) s.heap H locs → W p l e room_1 s m #[Value.ref b] below meth c H locs 68 29652 Z (F0 m 940 ls [])) : W p l e room_1 s m #[Value.ref b] below meth c H locs 68 29652 Z (F0 m 587 ls []) := by
  obtain ⟨hx, hb, hml, hown, hts, hr, hlocks, hK, hN, hbl⟩ := id C0
  have hbA : ¬ (fun q : Nat => s.heap.size ≤ q) b := Nat.not_le.mpr hbl
  refine lv_aload_n hx hb dL_law_587 rfl (lv_at hl 1 rfl) ?_
  refine lv_aload_n hx hb dL_law_588 rfl (lv_at hl 0 rfl) ?_
  refine lv_iload_n hx hb dL_law_589 rfl (lv_at hl 3 rfl) ?_
  refine lv_iconst (v := 1) hx hb dL_law_590 (by decide) ?_
  refine lv_iadd hx hb dL_law_591 ?_
  refine va_sld hx hb hX9 hbl hbA hS (inK hi hL (k := 1) (by decide) rfl) dL_law_592 ?_
  refine lv_aload_n hx hb dL_law_593 rfl (lv_at hl 0 rfl) ?_
  refine lv_iload_n hx hb dL_law_594 rfl (lv_at hl 3 rfl) ?_
  refine lv_iconst (v := 2) hx hb dL_law_595 (by decide) ?_
  refine lv_iadd hx hb dL_law_596 ?_
  refine va_sld hx hb hX9 hbl hbA hS (inK hi hL (k := 2) (by decide) rfl) dL_law_597 ?_
  refine lv_aload_n hx hb dL_law_598 rfl (lv_at hl 0 rfl) ?_
  refine lv_iload_n hx hb dL_law_599 rfl (lv_at hl 3 rfl) ?_
  refine lv_iconst (v := 3) hx hb dL_law_600 (by decide) ?_
  refine lv_iadd hx hb dL_law_601 ?_
  refine va_sld hx hb hX9 hbl hbA hS (inK hi hL (k := 3) (by decide) rfl) dL_law_602 ?_
  refine lX_wage C0 hXI h2 hS hl.1 _ _ _ (fun X H locs hXI h2 hS => ?_)
  refine lv_aload_n hx hb dL_law_606 rfl (lv_at hl 2 rfl) ?_
  refine lv_aload_n hx hb dL_law_607 rfl (lv_at hl 0 rfl) ?_
  refine lv_iload_n hx hb dL_law_608 rfl (lv_at hl 3 rfl) ?_
  refine lv_iconst (v := 1) hx hb dL_law_609 (by decide) ?_
  refine lv_iadd hx hb dL_law_610 ?_
  refine va_sld hx hb hX9 hbl hbA hS (inK hi hL (k := 1) (by decide) rfl) dL_law_611 ?_
  refine lv_aload_n hx hb dL_law_612 rfl (lv_at hl 0 rfl) ?_
  refine lv_iload_n hx hb dL_law_613 rfl (lv_at hl 3 rfl) ?_
  refine lv_iconst (v := 2) hx hb dL_law_614 (by decide) ?_
  refine lv_iadd hx hb dL_law_615 ?_
  refine va_sld hx hb hX9 hbl hbA hS (inK hi hL (k := 2) (by decide) rfl) dL_law_616 ?_
  refine lv_aload_n hx hb dL_law_617 rfl (lv_at hl 0 rfl) ?_
  refine lv_iload_n hx hb dL_law_618 rfl (lv_at hl 3 rfl) ?_
  refine lv_iconst (v := 3) hx hb dL_law_619 (by decide) ?_
  refine lv_iadd hx hb dL_law_620 ?_
  refine va_sld hx hb hX9 hbl hbA hS (inK hi hL (k := 3) (by decide) rfl) dL_law_621 ?_
  refine lM_wage C0 hMI h2.swap hS hl.1 _ _ _ _ (fun M H locs hMI h2 hS => ?_)
  exact lv_icmp_eq (tgt := 940) hx hb dL_law_625 (by decide) (fun _ => K _ _ _ _ _ _ _ hXI hMI h2.swap hS) (fun h9 => absurd rfl h9)
set_option maxHeartbeats 4000000 in
set_option maxRecDepth 100000 in
theorem lk_priced {p : Program} {l : Launch} {e : Env} {s : State} {m : MethodId} {below : List Frame} {meth : Method} {c : Code} {b : Addr} {dC : Nat → ClassId} {dI : Nat → Nat → Nat} {cyI cyJ cyZ cyO : ClassId} {Z : State → Prop} {L : Nat} {xs : Nat → Int32} {i : Nat} (C0 : lwC p s m meth c b dC dI cyI cyJ cyZ cyO) (hX9 : va_X b L xs s s.heap) (hL : L ≤ 3072) (hi : i + 6 ≤ L) {T : Tn} {pd : Pd} {im : Nat → Option Tn} {x mm : Nat} {X M : va_W} {H : Heap} {locs : List Loc} {ls : Array Slot} (hXI : XIv cyI cyJ cyZ cyO T pd im x X) (hMI : MIv cyI cyJ cyZ cyO T pd im mm M) (h2 : tw (dC, dI) vwCl (fun q : Nat => s.heap.size ≤ q) X M H) (hS : va_S (fun q : Nat => s.heap.size ≤ q) s.heap H locs) (hl : lv_has ls 4 [(0, .ref b), (1, .ref x), (2, .ref mm), (3, .int (nI i))]) (K : ∀ (T : Tn) (pd : Pd) (im : Nat → Option Tn) (X M : va_W) (H : Heap) (locs : List Loc), XIv cyI cyJ cyZ cyO T pd im x X → MIv cyI cyJ cyZ cyO T pd im mm M → tw (dC, dI) vwCl (fun q : Nat => s.heap.size ≤ q) X M H → va_S (fun q : Nat => s.heap.size ≤ q) s.heap H locs → W p l e room_1 s m #[Value.ref b] below meth c H locs 68 29652 Z (F0 m 940 ls [])) : W p l e room_1 s m #[Value.ref b] below meth c H locs 68 29652 Z (F0 m 630 ls []) := by
  obtain ⟨hx, hb, hml, hown, hts, hr, hlocks, hK, hN, hbl⟩ := id C0
  have hbA : ¬ (fun q : Nat => s.heap.size ≤ q) b := Nat.not_le.mpr hbl
  refine lv_aload_n hx hb dL_law_630 rfl (lv_at hl 1 rfl) ?_
  refine lv_aload_n hx hb dL_law_631 rfl (lv_at hl 0 rfl) ?_
  refine lv_iload_n hx hb dL_law_632 rfl (lv_at hl 3 rfl) ?_
  refine lv_iconst (v := 1) hx hb dL_law_633 (by decide) ?_
  refine lv_iadd hx hb dL_law_634 ?_
  refine va_sld hx hb hX9 hbl hbA hS (inK hi hL (k := 1) (by decide) rfl) dL_law_635 ?_
  refine lv_aload_n hx hb dL_law_636 rfl (lv_at hl 0 rfl) ?_
  refine lv_iload_n hx hb dL_law_637 rfl (lv_at hl 3 rfl) ?_
  refine lv_iconst (v := 2) hx hb dL_law_638 (by decide) ?_
  refine lv_iadd hx hb dL_law_639 ?_
  refine va_sld hx hb hX9 hbl hbA hS (inK hi hL (k := 2) (by decide) rfl) dL_law_640 ?_
  refine lX_priced C0 hXI h2 hS hl.1 _ _ (fun X H locs hXI h2 hS => ?_)
  refine lv_aload_n hx hb dL_law_644 rfl (lv_at hl 2 rfl) ?_
  refine lv_aload_n hx hb dL_law_645 rfl (lv_at hl 0 rfl) ?_
  refine lv_iload_n hx hb dL_law_646 rfl (lv_at hl 3 rfl) ?_
  refine lv_iconst (v := 1) hx hb dL_law_647 (by decide) ?_
  refine lv_iadd hx hb dL_law_648 ?_
  refine va_sld hx hb hX9 hbl hbA hS (inK hi hL (k := 1) (by decide) rfl) dL_law_649 ?_
  refine lv_aload_n hx hb dL_law_650 rfl (lv_at hl 0 rfl) ?_
  refine lv_iload_n hx hb dL_law_651 rfl (lv_at hl 3 rfl) ?_
  refine lv_iconst (v := 2) hx hb dL_law_652 (by decide) ?_
  refine lv_iadd hx hb dL_law_653 ?_
  refine va_sld hx hb hX9 hbl hbA hS (inK hi hL (k := 2) (by decide) rfl) dL_law_654 ?_
  refine lM_priced C0 hMI h2.swap hS hl.1 _ _ _ (fun M H locs hMI h2 hS => ?_)
  exact lv_icmp_eq (tgt := 940) hx hb dL_law_658 (by decide) (fun _ => K _ _ _ _ _ _ _ hXI hMI h2.swap hS) (fun h9 => absurd rfl h9)
set_option maxHeartbeats 4000000 in
set_option maxRecDepth 100000 in
theorem lk_penny {p : Program} {l : Launch} {e : Env} {s : State} {m : MethodId} {below : List Frame} {meth : Method} {c : Code} {b : Addr} {dC : Nat → ClassId} {dI : Nat → Nat → Nat} {cyI cyJ cyZ cyO : ClassId} {Z : State → Prop} {L : Nat} {xs : Nat → Int32} {i : Nat} (C0 : lwC p s m meth c b dC dI cyI cyJ cyZ cyO) (hX9 : va_X b L xs s s.heap) (hL : L ≤ 3072) (hi : i + 6 ≤ L) {T : Tn} {pd : Pd} {im : Nat → Option Tn} {x mm : Nat} {X M : va_W} {H : Heap} {locs : List Loc} {ls : Array Slot} (hXI : XIv cyI cyJ cyZ cyO T pd im x X) (hMI : MIv cyI cyJ cyZ cyO T pd im mm M) (h2 : tw (dC, dI) vwCl (fun q : Nat => s.heap.size ≤ q) X M H) (hS : va_S (fun q : Nat => s.heap.size ≤ q) s.heap H locs) (hl : lv_has ls 4 [(0, .ref b), (1, .ref x), (2, .ref mm), (3, .int (nI i))]) (K : ∀ (T : Tn) (pd : Pd) (im : Nat → Option Tn) (X M : va_W) (H : Heap) (locs : List Loc), XIv cyI cyJ cyZ cyO T pd im x X → MIv cyI cyJ cyZ cyO T pd im mm M → tw (dC, dI) vwCl (fun q : Nat => s.heap.size ≤ q) X M H → va_S (fun q : Nat => s.heap.size ≤ q) s.heap H locs → W p l e room_1 s m #[Value.ref b] below meth c H locs 68 29652 Z (F0 m 940 ls [])) : W p l e room_1 s m #[Value.ref b] below meth c H locs 68 29652 Z (F0 m 663 ls []) := by
  obtain ⟨hx, hb, hml, hown, hts, hr, hlocks, hK, hN, hbl⟩ := id C0
  have hbA : ¬ (fun q : Nat => s.heap.size ≤ q) b := Nat.not_le.mpr hbl
  refine lv_aload_n hx hb dL_law_663 rfl (lv_at hl 1 rfl) ?_
  refine lv_aload_n hx hb dL_law_664 rfl (lv_at hl 0 rfl) ?_
  refine lv_iload_n hx hb dL_law_665 rfl (lv_at hl 3 rfl) ?_
  refine lv_iconst (v := 1) hx hb dL_law_666 (by decide) ?_
  refine lv_iadd hx hb dL_law_667 ?_
  refine va_sld hx hb hX9 hbl hbA hS (inK hi hL (k := 1) (by decide) rfl) dL_law_668 ?_
  refine lv_aload_n hx hb dL_law_669 rfl (lv_at hl 0 rfl) ?_
  refine lv_iload_n hx hb dL_law_670 rfl (lv_at hl 3 rfl) ?_
  refine lv_iconst (v := 2) hx hb dL_law_671 (by decide) ?_
  refine lv_iadd hx hb dL_law_672 ?_
  refine va_sld hx hb hX9 hbl hbA hS (inK hi hL (k := 2) (by decide) rfl) dL_law_673 ?_
  refine lv_aload_n hx hb dL_law_674 rfl (lv_at hl 0 rfl) ?_
  refine lv_iload_n hx hb dL_law_675 rfl (lv_at hl 3 rfl) ?_
  refine lv_iconst (v := 3) hx hb dL_law_676 (by decide) ?_
  refine lv_iadd hx hb dL_law_677 ?_
  refine va_sld hx hb hX9 hbl hbA hS (inK hi hL (k := 3) (by decide) rfl) dL_law_678 ?_
  refine lX_penny C0 hXI h2 hS hl.1 _ _ _ (fun X H locs hXI h2 hS => ?_)
  refine lv_aload_n hx hb dL_law_682 rfl (lv_at hl 2 rfl) ?_
  refine lv_aload_n hx hb dL_law_683 rfl (lv_at hl 0 rfl) ?_
  refine lv_iload_n hx hb dL_law_684 rfl (lv_at hl 3 rfl) ?_
  refine lv_iconst (v := 1) hx hb dL_law_685 (by decide) ?_
  refine lv_iadd hx hb dL_law_686 ?_
  refine va_sld hx hb hX9 hbl hbA hS (inK hi hL (k := 1) (by decide) rfl) dL_law_687 ?_
  refine lv_aload_n hx hb dL_law_688 rfl (lv_at hl 0 rfl) ?_
  refine lv_iload_n hx hb dL_law_689 rfl (lv_at hl 3 rfl) ?_
  refine lv_iconst (v := 2) hx hb dL_law_690 (by decide) ?_
  refine lv_iadd hx hb dL_law_691 ?_
  refine va_sld hx hb hX9 hbl hbA hS (inK hi hL (k := 2) (by decide) rfl) dL_law_692 ?_
  refine lv_aload_n hx hb dL_law_693 rfl (lv_at hl 0 rfl) ?_
  refine lv_iload_n hx hb dL_law_694 rfl (lv_at hl 3 rfl) ?_
  refine lv_iconst (v := 3) hx hb dL_law_695 (by decide) ?_
  refine lv_iadd hx hb dL_law_696 ?_
  refine va_sld hx hb hX9 hbl hbA hS (inK hi hL (k := 3) (by decide) rfl) dL_law_697 ?_
  refine lM_penny C0 hMI h2.swap hS hl.1 _ _ _ _ (fun M H locs hMI h2 hS => ?_)
  exact lv_icmp_eq (tgt := 940) hx hb dL_law_701 (by decide) (fun _ => K _ _ _ _ _ _ _ hXI hMI h2.swap hS) (fun h9 => absurd rfl h9)
set_option maxHeartbeats 4000000 in
set_option maxRecDepth 100000 in
theorem lk_seen {p : Program} {l : Launch} {e : Env} {s : State} {m : MethodId} {below : List Frame} {meth : Method} {c : Code} {b : Addr} {dC : Nat → ClassId} {dI : Nat → Nat → Nat} {cyI cyJ cyZ cyO : ClassId} {Z : State → Prop} {L : Nat} {xs : Nat → Int32} {i : Nat} (C0 : lwC p s m meth c b dC dI cyI cyJ cyZ cyO) (hX9 : va_X b L xs s s.heap) (hL : L ≤ 3072) (hi : i + 6 ≤ L) {T : Tn} {pd : Pd} {im : Nat → Option Tn} {x mm : Nat} {X M : va_W} {H : Heap} {locs : List Loc} {ls : Array Slot} (hXI : XIv cyI cyJ cyZ cyO T pd im x X) (hMI : MIv cyI cyJ cyZ cyO T pd im mm M) (h2 : tw (dC, dI) vwCl (fun q : Nat => s.heap.size ≤ q) X M H) (hS : va_S (fun q : Nat => s.heap.size ≤ q) s.heap H locs) (hl : lv_has ls 4 [(0, .ref b), (1, .ref x), (2, .ref mm), (3, .int (nI i))]) (K : ∀ (T : Tn) (pd : Pd) (im : Nat → Option Tn) (X M : va_W) (H : Heap) (locs : List Loc), XIv cyI cyJ cyZ cyO T pd im x X → MIv cyI cyJ cyZ cyO T pd im mm M → tw (dC, dI) vwCl (fun q : Nat => s.heap.size ≤ q) X M H → va_S (fun q : Nat => s.heap.size ≤ q) s.heap H locs → W p l e room_1 s m #[Value.ref b] below meth c H locs 68 29652 Z (F0 m 940 ls [])) : W p l e room_1 s m #[Value.ref b] below meth c H locs 68 29652 Z (F0 m 706 ls []) := by
  obtain ⟨hx, hb, hml, hown, hts, hr, hlocks, hK, hN, hbl⟩ := id C0
  have hbA : ¬ (fun q : Nat => s.heap.size ≤ q) b := Nat.not_le.mpr hbl
  refine lv_aload_n hx hb dL_law_706 rfl (lv_at hl 1 rfl) ?_
  refine lv_aload_n hx hb dL_law_707 rfl (lv_at hl 0 rfl) ?_
  refine lv_iload_n hx hb dL_law_708 rfl (lv_at hl 3 rfl) ?_
  refine lv_iconst (v := 1) hx hb dL_law_709 (by decide) ?_
  refine lv_iadd hx hb dL_law_710 ?_
  refine va_sld hx hb hX9 hbl hbA hS (inK hi hL (k := 1) (by decide) rfl) dL_law_711 ?_
  refine lv_aload_n hx hb dL_law_712 rfl (lv_at hl 0 rfl) ?_
  refine lv_iload_n hx hb dL_law_713 rfl (lv_at hl 3 rfl) ?_
  refine lv_iconst (v := 2) hx hb dL_law_714 (by decide) ?_
  refine lv_iadd hx hb dL_law_715 ?_
  refine va_sld hx hb hX9 hbl hbA hS (inK hi hL (k := 2) (by decide) rfl) dL_law_716 ?_
  refine lv_aload_n hx hb dL_law_717 rfl (lv_at hl 0 rfl) ?_
  refine lv_iload_n hx hb dL_law_718 rfl (lv_at hl 3 rfl) ?_
  refine lv_iconst (v := 3) hx hb dL_law_719 (by decide) ?_
  refine lv_iadd hx hb dL_law_720 ?_
  refine va_sld hx hb hX9 hbl hbA hS (inK hi hL (k := 3) (by decide) rfl) dL_law_721 ?_
  refine lX_seen C0 hXI h2 hS hl.1 _ _ _ (fun X H locs hXI h2 hS => ?_)
  refine lv_aload_n hx hb dL_law_725 rfl (lv_at hl 2 rfl) ?_
  refine lv_aload_n hx hb dL_law_726 rfl (lv_at hl 0 rfl) ?_
  refine lv_iload_n hx hb dL_law_727 rfl (lv_at hl 3 rfl) ?_
  refine lv_iconst (v := 1) hx hb dL_law_728 (by decide) ?_
  refine lv_iadd hx hb dL_law_729 ?_
  refine va_sld hx hb hX9 hbl hbA hS (inK hi hL (k := 1) (by decide) rfl) dL_law_730 ?_
  refine lv_aload_n hx hb dL_law_731 rfl (lv_at hl 0 rfl) ?_
  refine lv_iload_n hx hb dL_law_732 rfl (lv_at hl 3 rfl) ?_
  refine lv_iconst (v := 2) hx hb dL_law_733 (by decide) ?_
  refine lv_iadd hx hb dL_law_734 ?_
  refine va_sld hx hb hX9 hbl hbA hS (inK hi hL (k := 2) (by decide) rfl) dL_law_735 ?_
  refine lv_aload_n hx hb dL_law_736 rfl (lv_at hl 0 rfl) ?_
  refine lv_iload_n hx hb dL_law_737 rfl (lv_at hl 3 rfl) ?_
  refine lv_iconst (v := 3) hx hb dL_law_738 (by decide) ?_
  refine lv_iadd hx hb dL_law_739 ?_
  refine va_sld hx hb hX9 hbl hbA hS (inK hi hL (k := 3) (by decide) rfl) dL_law_740 ?_
  refine lM_seen C0 hMI h2.swap hS hl.1 _ _ _ _ (fun M H locs hMI h2 hS => ?_)
  exact lv_icmp_eq (tgt := 940) hx hb dL_law_744 (by decide) (fun _ => K _ _ _ _ _ _ _ hXI hMI h2.swap hS) (fun h9 => absurd rfl h9)
set_option maxHeartbeats 4000000 in
set_option maxRecDepth 100000 in
theorem lk_forget {p : Program} {l : Launch} {e : Env} {s : State} {m : MethodId} {below : List Frame} {meth : Method} {c : Code} {b : Addr} {dC : Nat → ClassId} {dI : Nat → Nat → Nat} {cyI cyJ cyZ cyO : ClassId} {Z : State → Prop} {L : Nat} {xs : Nat → Int32} {i : Nat} (C0 : lwC p s m meth c b dC dI cyI cyJ cyZ cyO) (hX9 : va_X b L xs s s.heap) (hL : L ≤ 3072) (hi : i + 6 ≤ L) {T : Tn} {pd : Pd} {im : Nat → Option Tn} {x mm : Nat} {X M : va_W} {H : Heap} {locs : List Loc} {ls : Array Slot} (hXI : XIv cyI cyJ cyZ cyO T pd im x X) (hMI : MIv cyI cyJ cyZ cyO T pd im mm M) (h2 : tw (dC, dI) vwCl (fun q : Nat => s.heap.size ≤ q) X M H) (hS : va_S (fun q : Nat => s.heap.size ≤ q) s.heap H locs) (hl : lv_has ls 4 [(0, .ref b), (1, .ref x), (2, .ref mm), (3, .int (nI i))]) (K : ∀ (T : Tn) (pd : Pd) (im : Nat → Option Tn) (X M : va_W) (H : Heap) (locs : List Loc), XIv cyI cyJ cyZ cyO T pd im x X → MIv cyI cyJ cyZ cyO T pd im mm M → tw (dC, dI) vwCl (fun q : Nat => s.heap.size ≤ q) X M H → va_S (fun q : Nat => s.heap.size ≤ q) s.heap H locs → W p l e room_1 s m #[Value.ref b] below meth c H locs 68 29652 Z (F0 m 940 ls [])) : W p l e room_1 s m #[Value.ref b] below meth c H locs 68 29652 Z (F0 m 749 ls []) := by
  obtain ⟨hx, hb, hml, hown, hts, hr, hlocks, hK, hN, hbl⟩ := id C0
  have hbA : ¬ (fun q : Nat => s.heap.size ≤ q) b := Nat.not_le.mpr hbl
  refine lv_aload_n hx hb dL_law_749 rfl (lv_at hl 1 rfl) ?_
  refine lX_forget C0 hXI h2 hS hl.1 (fun X H locs hXI h2 hS => ?_)
  refine lv_aload_n hx hb dL_law_753 rfl (lv_at hl 2 rfl) ?_
  refine lM_forget C0 hMI h2.swap hS hl.1 _ (fun M H locs hMI h2 hS => ?_)
  exact lv_icmp_eq (tgt := 940) hx hb dL_law_757 (by decide) (fun _ => K _ _ _ _ _ _ _ hXI hMI h2.swap hS) (fun h9 => absurd rfl h9)
set_option maxHeartbeats 4000000 in
set_option maxRecDepth 100000 in
theorem lk_fits {p : Program} {l : Launch} {e : Env} {s : State} {m : MethodId} {below : List Frame} {meth : Method} {c : Code} {b : Addr} {dC : Nat → ClassId} {dI : Nat → Nat → Nat} {cyI cyJ cyZ cyO : ClassId} {Z : State → Prop} {L : Nat} {xs : Nat → Int32} {i : Nat} (C0 : lwC p s m meth c b dC dI cyI cyJ cyZ cyO) (hX9 : va_X b L xs s s.heap) (hL : L ≤ 3072) (hi : i + 6 ≤ L) {T : Tn} {pd : Pd} {im : Nat → Option Tn} {x mm : Nat} {X M : va_W} {H : Heap} {locs : List Loc} {ls : Array Slot} (hXI : XIv cyI cyJ cyZ cyO T pd im x X) (hMI : MIv cyI cyJ cyZ cyO T pd im mm M) (h2 : tw (dC, dI) vwCl (fun q : Nat => s.heap.size ≤ q) X M H) (hS : va_S (fun q : Nat => s.heap.size ≤ q) s.heap H locs) (hl : lv_has ls 4 [(0, .ref b), (1, .ref x), (2, .ref mm), (3, .int (nI i))]) (K : ∀ (T : Tn) (pd : Pd) (im : Nat → Option Tn) (X M : va_W) (H : Heap) (locs : List Loc), XIv cyI cyJ cyZ cyO T pd im x X → MIv cyI cyJ cyZ cyO T pd im mm M → tw (dC, dI) vwCl (fun q : Nat => s.heap.size ≤ q) X M H → va_S (fun q : Nat => s.heap.size ≤ q) s.heap H locs → W p l e room_1 s m #[Value.ref b] below meth c H locs 68 29652 Z (F0 m 940 ls [])) : W p l e room_1 s m #[Value.ref b] below meth c H locs 68 29652 Z (F0 m 762 ls []) := by
  obtain ⟨hx, hb, hml, hown, hts, hr, hlocks, hK, hN, hbl⟩ := id C0
  have hbA : ¬ (fun q : Nat => s.heap.size ≤ q) b := Nat.not_le.mpr hbl
  refine lv_aload_n hx hb dL_law_762 rfl (lv_at hl 1 rfl) ?_
  refine lv_aload_n hx hb dL_law_763 rfl (lv_at hl 0 rfl) ?_
  refine lv_iload_n hx hb dL_law_764 rfl (lv_at hl 3 rfl) ?_
  refine lv_iconst (v := 1) hx hb dL_law_765 (by decide) ?_
  refine lv_iadd hx hb dL_law_766 ?_
  refine va_sld hx hb hX9 hbl hbA hS (inK hi hL (k := 1) (by decide) rfl) dL_law_767 ?_
  refine lv_aload_n hx hb dL_law_768 rfl (lv_at hl 0 rfl) ?_
  refine lv_iload_n hx hb dL_law_769 rfl (lv_at hl 3 rfl) ?_
  refine lv_iconst (v := 2) hx hb dL_law_770 (by decide) ?_
  refine lv_iadd hx hb dL_law_771 ?_
  refine va_sld hx hb hX9 hbl hbA hS (inK hi hL (k := 2) (by decide) rfl) dL_law_772 ?_
  refine lv_aload_n hx hb dL_law_773 rfl (lv_at hl 0 rfl) ?_
  refine lv_iload_n hx hb dL_law_774 rfl (lv_at hl 3 rfl) ?_
  refine lv_iconst (v := 3) hx hb dL_law_775 (by decide) ?_
  refine lv_iadd hx hb dL_law_776 ?_
  refine va_sld hx hb hX9 hbl hbA hS (inK hi hL (k := 3) (by decide) rfl) dL_law_777 ?_
  refine lX_fits C0 hXI h2 hS hl.1 _ _ _ (fun X H locs hXI h2 hS => ?_)
  refine lv_aload_n hx hb dL_law_781 rfl (lv_at hl 2 rfl) ?_
  refine lv_aload_n hx hb dL_law_782 rfl (lv_at hl 0 rfl) ?_
  refine lv_iload_n hx hb dL_law_783 rfl (lv_at hl 3 rfl) ?_
  refine lv_iconst (v := 1) hx hb dL_law_784 (by decide) ?_
  refine lv_iadd hx hb dL_law_785 ?_
  refine va_sld hx hb hX9 hbl hbA hS (inK hi hL (k := 1) (by decide) rfl) dL_law_786 ?_
  refine lv_aload_n hx hb dL_law_787 rfl (lv_at hl 0 rfl) ?_
  refine lv_iload_n hx hb dL_law_788 rfl (lv_at hl 3 rfl) ?_
  refine lv_iconst (v := 2) hx hb dL_law_789 (by decide) ?_
  refine lv_iadd hx hb dL_law_790 ?_
  refine va_sld hx hb hX9 hbl hbA hS (inK hi hL (k := 2) (by decide) rfl) dL_law_791 ?_
  refine lv_aload_n hx hb dL_law_792 rfl (lv_at hl 0 rfl) ?_
  refine lv_iload_n hx hb dL_law_793 rfl (lv_at hl 3 rfl) ?_
  refine lv_iconst (v := 3) hx hb dL_law_794 (by decide) ?_
  refine lv_iadd hx hb dL_law_795 ?_
  refine va_sld hx hb hX9 hbl hbA hS (inK hi hL (k := 3) (by decide) rfl) dL_law_796 ?_
  refine lM_fits C0 hMI h2.swap hS hl.1 _ _ _ _ (fun M H locs hMI h2 hS => ?_)
  exact lv_icmp_eq (tgt := 940) hx hb dL_law_800 (by decide) (fun _ => K _ _ _ _ _ _ _ hXI hMI h2.swap hS) (fun h9 => absurd rfl h9)
set_option maxHeartbeats 4000000 in
set_option maxRecDepth 100000 in
theorem lk_row {p : Program} {l : Launch} {e : Env} {s : State} {m : MethodId} {below : List Frame} {meth : Method} {c : Code} {b : Addr} {dC : Nat → ClassId} {dI : Nat → Nat → Nat} {cyI cyJ cyZ cyO : ClassId} {Z : State → Prop} {L : Nat} {xs : Nat → Int32} {i : Nat} (C0 : lwC p s m meth c b dC dI cyI cyJ cyZ cyO) (hX9 : va_X b L xs s s.heap) (hL : L ≤ 3072) (hi : i + 6 ≤ L) {T : Tn} {pd : Pd} {im : Nat → Option Tn} {x mm : Nat} {X M : va_W} {H : Heap} {locs : List Loc} {ls : Array Slot} (hXI : XIv cyI cyJ cyZ cyO T pd im x X) (hMI : MIv cyI cyJ cyZ cyO T pd im mm M) (h2 : tw (dC, dI) vwCl (fun q : Nat => s.heap.size ≤ q) X M H) (hS : va_S (fun q : Nat => s.heap.size ≤ q) s.heap H locs) (hl : lv_has ls 4 [(0, .ref b), (1, .ref x), (2, .ref mm), (3, .int (nI i))]) (K : ∀ (T : Tn) (pd : Pd) (im : Nat → Option Tn) (X M : va_W) (H : Heap) (locs : List Loc), XIv cyI cyJ cyZ cyO T pd im x X → MIv cyI cyJ cyZ cyO T pd im mm M → tw (dC, dI) vwCl (fun q : Nat => s.heap.size ≤ q) X M H → va_S (fun q : Nat => s.heap.size ≤ q) s.heap H locs → W p l e room_1 s m #[Value.ref b] below meth c H locs 68 29652 Z (F0 m 940 ls [])) : W p l e room_1 s m #[Value.ref b] below meth c H locs 68 29652 Z (F0 m 805 ls []) := by
  obtain ⟨hx, hb, hml, hown, hts, hr, hlocks, hK, hN, hbl⟩ := id C0
  have hbA : ¬ (fun q : Nat => s.heap.size ≤ q) b := Nat.not_le.mpr hbl
  refine lv_aload_n hx hb dL_law_805 rfl (lv_at hl 1 rfl) ?_
  refine lv_aload_n hx hb dL_law_806 rfl (lv_at hl 0 rfl) ?_
  refine lv_iload_n hx hb dL_law_807 rfl (lv_at hl 3 rfl) ?_
  refine lv_iconst (v := 1) hx hb dL_law_808 (by decide) ?_
  refine lv_iadd hx hb dL_law_809 ?_
  refine va_sld hx hb hX9 hbl hbA hS (inK hi hL (k := 1) (by decide) rfl) dL_law_810 ?_
  refine lX_row C0 hXI h2 hS hl.1 _ (fun X H locs hXI h2 hS => ?_)
  refine lv_aload_n hx hb dL_law_814 rfl (lv_at hl 2 rfl) ?_
  refine lv_aload_n hx hb dL_law_815 rfl (lv_at hl 0 rfl) ?_
  refine lv_iload_n hx hb dL_law_816 rfl (lv_at hl 3 rfl) ?_
  refine lv_iconst (v := 1) hx hb dL_law_817 (by decide) ?_
  refine lv_iadd hx hb dL_law_818 ?_
  refine va_sld hx hb hX9 hbl hbA hS (inK hi hL (k := 1) (by decide) rfl) dL_law_819 ?_
  refine lM_row C0 hMI h2.swap hS hl.1 _ _ (fun M H locs hMI h2 hS => ?_)
  exact lv_icmp_eq (tgt := 940) hx hb dL_law_823 (by decide) (fun _ => K _ _ _ _ _ _ _ hXI hMI h2.swap hS) (fun h9 => absurd rfl h9)
set_option maxHeartbeats 4000000 in
set_option maxRecDepth 100000 in
theorem lk_year {p : Program} {l : Launch} {e : Env} {s : State} {m : MethodId} {below : List Frame} {meth : Method} {c : Code} {b : Addr} {dC : Nat → ClassId} {dI : Nat → Nat → Nat} {cyI cyJ cyZ cyO : ClassId} {Z : State → Prop} {L : Nat} {xs : Nat → Int32} {i : Nat} (C0 : lwC p s m meth c b dC dI cyI cyJ cyZ cyO) (hX9 : va_X b L xs s s.heap) (hL : L ≤ 3072) (hi : i + 6 ≤ L) {T : Tn} {pd : Pd} {im : Nat → Option Tn} {x mm : Nat} {X M : va_W} {H : Heap} {locs : List Loc} {ls : Array Slot} (hXI : XIv cyI cyJ cyZ cyO T pd im x X) (hMI : MIv cyI cyJ cyZ cyO T pd im mm M) (h2 : tw (dC, dI) vwCl (fun q : Nat => s.heap.size ≤ q) X M H) (hS : va_S (fun q : Nat => s.heap.size ≤ q) s.heap H locs) (hl : lv_has ls 4 [(0, .ref b), (1, .ref x), (2, .ref mm), (3, .int (nI i))]) (K : ∀ (T : Tn) (pd : Pd) (im : Nat → Option Tn) (X M : va_W) (H : Heap) (locs : List Loc), XIv cyI cyJ cyZ cyO T pd im x X → MIv cyI cyJ cyZ cyO T pd im mm M → tw (dC, dI) vwCl (fun q : Nat => s.heap.size ≤ q) X M H → va_S (fun q : Nat => s.heap.size ≤ q) s.heap H locs → W p l e room_1 s m #[Value.ref b] below meth c H locs 68 29652 Z (F0 m 940 ls [])) : W p l e room_1 s m #[Value.ref b] below meth c H locs 68 29652 Z (F0 m 828 ls []) := by
  obtain ⟨hx, hb, hml, hown, hts, hr, hlocks, hK, hN, hbl⟩ := id C0
  have hbA : ¬ (fun q : Nat => s.heap.size ≤ q) b := Nat.not_le.mpr hbl
  refine lv_aload_n hx hb dL_law_828 rfl (lv_at hl 1 rfl) ?_
  refine lv_aload_n hx hb dL_law_829 rfl (lv_at hl 0 rfl) ?_
  refine lv_iload_n hx hb dL_law_830 rfl (lv_at hl 3 rfl) ?_
  refine lv_iconst (v := 1) hx hb dL_law_831 (by decide) ?_
  refine lv_iadd hx hb dL_law_832 ?_
  refine va_sld hx hb hX9 hbl hbA hS (inK hi hL (k := 1) (by decide) rfl) dL_law_833 ?_
  refine lv_aload_n hx hb dL_law_834 rfl (lv_at hl 0 rfl) ?_
  refine lv_iload_n hx hb dL_law_835 rfl (lv_at hl 3 rfl) ?_
  refine lv_iconst (v := 2) hx hb dL_law_836 (by decide) ?_
  refine lv_iadd hx hb dL_law_837 ?_
  refine va_sld hx hb hX9 hbl hbA hS (inK hi hL (k := 2) (by decide) rfl) dL_law_838 ?_
  refine lv_aload_n hx hb dL_law_839 rfl (lv_at hl 0 rfl) ?_
  refine lv_iload_n hx hb dL_law_840 rfl (lv_at hl 3 rfl) ?_
  refine lv_iconst (v := 3) hx hb dL_law_841 (by decide) ?_
  refine lv_iadd hx hb dL_law_842 ?_
  refine va_sld hx hb hX9 hbl hbA hS (inK hi hL (k := 3) (by decide) rfl) dL_law_843 ?_
  refine lX_year C0 hXI h2 hS hl.1 _ _ _ (fun X H locs hXI h2 hS => ?_)
  refine lv_aload_n hx hb dL_law_847 rfl (lv_at hl 2 rfl) ?_
  refine lv_aload_n hx hb dL_law_848 rfl (lv_at hl 0 rfl) ?_
  refine lv_iload_n hx hb dL_law_849 rfl (lv_at hl 3 rfl) ?_
  refine lv_iconst (v := 1) hx hb dL_law_850 (by decide) ?_
  refine lv_iadd hx hb dL_law_851 ?_
  refine va_sld hx hb hX9 hbl hbA hS (inK hi hL (k := 1) (by decide) rfl) dL_law_852 ?_
  refine lv_aload_n hx hb dL_law_853 rfl (lv_at hl 0 rfl) ?_
  refine lv_iload_n hx hb dL_law_854 rfl (lv_at hl 3 rfl) ?_
  refine lv_iconst (v := 2) hx hb dL_law_855 (by decide) ?_
  refine lv_iadd hx hb dL_law_856 ?_
  refine va_sld hx hb hX9 hbl hbA hS (inK hi hL (k := 2) (by decide) rfl) dL_law_857 ?_
  refine lv_aload_n hx hb dL_law_858 rfl (lv_at hl 0 rfl) ?_
  refine lv_iload_n hx hb dL_law_859 rfl (lv_at hl 3 rfl) ?_
  refine lv_iconst (v := 3) hx hb dL_law_860 (by decide) ?_
  refine lv_iadd hx hb dL_law_861 ?_
  refine va_sld hx hb hX9 hbl hbA hS (inK hi hL (k := 3) (by decide) rfl) dL_law_862 ?_
  refine lM_year C0 hMI h2.swap hS hl.1 _ _ _ _ (fun M H locs hMI h2 hS => ?_)
  exact lv_icmp_eq (tgt := 940) hx hb dL_law_866 (by decide) (fun _ => K _ _ _ _ _ _ _ hXI hMI h2.swap hS) (fun h9 => absurd rfl h9)
set_option maxHeartbeats 4000000 in
set_option maxRecDepth 100000 in
theorem lk_image {p : Program} {l : Launch} {e : Env} {s : State} {m : MethodId} {below : List Frame} {meth : Method} {c : Code} {b : Addr} {dC : Nat → ClassId} {dI : Nat → Nat → Nat} {cyI cyJ cyZ cyO : ClassId} {Z : State → Prop} {L : Nat} {xs : Nat → Int32} {i : Nat} (C0 : lwC p s m meth c b dC dI cyI cyJ cyZ cyO) (hX9 : va_X b L xs s s.heap) (hL : L ≤ 3072) (hi : i + 6 ≤ L) {T : Tn} {pd : Pd} {im : Nat → Option Tn} {x mm : Nat} {X M : va_W} {H : Heap} {locs : List Loc} {ls : Array Slot} (hXI : XIv cyI cyJ cyZ cyO T pd im x X) (hMI : MIv cyI cyJ cyZ cyO T pd im mm M) (h2 : tw (dC, dI) vwCl (fun q : Nat => s.heap.size ≤ q) X M H) (hS : va_S (fun q : Nat => s.heap.size ≤ q) s.heap H locs) (hl : lv_has ls 4 [(0, .ref b), (1, .ref x), (2, .ref mm), (3, .int (nI i))]) (K : ∀ (T : Tn) (pd : Pd) (im : Nat → Option Tn) (X M : va_W) (H : Heap) (locs : List Loc), XIv cyI cyJ cyZ cyO T pd im x X → MIv cyI cyJ cyZ cyO T pd im mm M → tw (dC, dI) vwCl (fun q : Nat => s.heap.size ≤ q) X M H → va_S (fun q : Nat => s.heap.size ≤ q) s.heap H locs → W p l e room_1 s m #[Value.ref b] below meth c H locs 68 29652 Z (F0 m 940 ls [])) : W p l e room_1 s m #[Value.ref b] below meth c H locs 68 29652 Z (F0 m 871 ls []) := by
  obtain ⟨hx, hb, hml, hown, hts, hr, hlocks, hK, hN, hbl⟩ := id C0
  have hbA : ¬ (fun q : Nat => s.heap.size ≤ q) b := Nat.not_le.mpr hbl
  refine lv_aload_n hx hb dL_law_871 rfl (lv_at hl 1 rfl) ?_
  refine lv_aload_n hx hb dL_law_872 rfl (lv_at hl 0 rfl) ?_
  refine lv_iload_n hx hb dL_law_873 rfl (lv_at hl 3 rfl) ?_
  refine lv_iconst (v := 1) hx hb dL_law_874 (by decide) ?_
  refine lv_iadd hx hb dL_law_875 ?_
  refine va_sld hx hb hX9 hbl hbA hS (inK hi hL (k := 1) (by decide) rfl) dL_law_876 ?_
  refine lX_image C0 hXI h2 hS hl.1 _ (fun X H locs hXI h2 hS => ?_)
  refine lv_aload_n hx hb dL_law_880 rfl (lv_at hl 2 rfl) ?_
  refine lv_aload_n hx hb dL_law_881 rfl (lv_at hl 0 rfl) ?_
  refine lv_iload_n hx hb dL_law_882 rfl (lv_at hl 3 rfl) ?_
  refine lv_iconst (v := 1) hx hb dL_law_883 (by decide) ?_
  refine lv_iadd hx hb dL_law_884 ?_
  refine va_sld hx hb hX9 hbl hbA hS (inK hi hL (k := 1) (by decide) rfl) dL_law_885 ?_
  refine lM_image C0 hMI h2.swap hS hl.1 _ _ (fun M H locs hMI h2 hS => ?_)
  exact lv_icmp_eq (tgt := 940) hx hb dL_law_889 (by decide) (fun _ => K _ _ _ _ _ _ _ hXI hMI h2.swap hS) (fun h9 => absurd rfl h9)
set_option maxHeartbeats 4000000 in
set_option maxRecDepth 100000 in
theorem lk_restore {p : Program} {l : Launch} {e : Env} {s : State} {m : MethodId} {below : List Frame} {meth : Method} {c : Code} {b : Addr} {dC : Nat → ClassId} {dI : Nat → Nat → Nat} {cyI cyJ cyZ cyO : ClassId} {Z : State → Prop} {L : Nat} {xs : Nat → Int32} {i : Nat} (C0 : lwC p s m meth c b dC dI cyI cyJ cyZ cyO) (hX9 : va_X b L xs s s.heap) (hL : L ≤ 3072) (hi : i + 6 ≤ L) {T : Tn} {pd : Pd} {im : Nat → Option Tn} {x mm : Nat} {X M : va_W} {H : Heap} {locs : List Loc} {ls : Array Slot} (hXI : XIv cyI cyJ cyZ cyO T pd im x X) (hMI : MIv cyI cyJ cyZ cyO T pd im mm M) (h2 : tw (dC, dI) vwCl (fun q : Nat => s.heap.size ≤ q) X M H) (hS : va_S (fun q : Nat => s.heap.size ≤ q) s.heap H locs) (hl : lv_has ls 4 [(0, .ref b), (1, .ref x), (2, .ref mm), (3, .int (nI i))]) (K : ∀ (T : Tn) (pd : Pd) (im : Nat → Option Tn) (X M : va_W) (H : Heap) (locs : List Loc), XIv cyI cyJ cyZ cyO T pd im x X → MIv cyI cyJ cyZ cyO T pd im mm M → tw (dC, dI) vwCl (fun q : Nat => s.heap.size ≤ q) X M H → va_S (fun q : Nat => s.heap.size ≤ q) s.heap H locs → W p l e room_1 s m #[Value.ref b] below meth c H locs 68 29652 Z (F0 m 940 ls [])) : W p l e room_1 s m #[Value.ref b] below meth c H locs 68 29652 Z (F0 m 894 ls []) := by
  obtain ⟨hx, hb, hml, hown, hts, hr, hlocks, hK, hN, hbl⟩ := id C0
  have hbA : ¬ (fun q : Nat => s.heap.size ≤ q) b := Nat.not_le.mpr hbl
  refine lv_aload_n hx hb dL_law_894 rfl (lv_at hl 1 rfl) ?_
  refine lv_aload_n hx hb dL_law_895 rfl (lv_at hl 0 rfl) ?_
  refine lv_iload_n hx hb dL_law_896 rfl (lv_at hl 3 rfl) ?_
  refine lv_iconst (v := 1) hx hb dL_law_897 (by decide) ?_
  refine lv_iadd hx hb dL_law_898 ?_
  refine va_sld hx hb hX9 hbl hbA hS (inK hi hL (k := 1) (by decide) rfl) dL_law_899 ?_
  refine lX_restore C0 hXI h2 hS hl.1 _ (fun X H locs hXI h2 hS => ?_)
  refine lv_aload_n hx hb dL_law_903 rfl (lv_at hl 2 rfl) ?_
  refine lv_aload_n hx hb dL_law_904 rfl (lv_at hl 0 rfl) ?_
  refine lv_iload_n hx hb dL_law_905 rfl (lv_at hl 3 rfl) ?_
  refine lv_iconst (v := 1) hx hb dL_law_906 (by decide) ?_
  refine lv_iadd hx hb dL_law_907 ?_
  refine va_sld hx hb hX9 hbl hbA hS (inK hi hL (k := 1) (by decide) rfl) dL_law_908 ?_
  refine lM_restore C0 hMI h2.swap hS hl.1 _ _ (fun M H locs hMI h2 hS => ?_)
  exact lv_icmp_eq (tgt := 940) hx hb dL_law_912 (by decide) (fun _ => K _ _ _ _ _ _ _ hXI hMI h2.swap hS) (fun h9 => absurd rfl h9)
set_option maxHeartbeats 4000000 in
set_option maxRecDepth 100000 in
theorem lk_told {p : Program} {l : Launch} {e : Env} {s : State} {m : MethodId} {below : List Frame} {meth : Method} {c : Code} {b : Addr} {dC : Nat → ClassId} {dI : Nat → Nat → Nat} {cyI cyJ cyZ cyO : ClassId} {Z : State → Prop} {L : Nat} {xs : Nat → Int32} {i : Nat} (C0 : lwC p s m meth c b dC dI cyI cyJ cyZ cyO) (hX9 : va_X b L xs s s.heap) (hL : L ≤ 3072) (hi : i + 6 ≤ L) {T : Tn} {pd : Pd} {im : Nat → Option Tn} {x mm : Nat} {X M : va_W} {H : Heap} {locs : List Loc} {ls : Array Slot} (hXI : XIv cyI cyJ cyZ cyO T pd im x X) (hMI : MIv cyI cyJ cyZ cyO T pd im mm M) (h2 : tw (dC, dI) vwCl (fun q : Nat => s.heap.size ≤ q) X M H) (hS : va_S (fun q : Nat => s.heap.size ≤ q) s.heap H locs) (hl : lv_has ls 4 [(0, .ref b), (1, .ref x), (2, .ref mm), (3, .int (nI i))]) (K : ∀ (T : Tn) (pd : Pd) (im : Nat → Option Tn) (X M : va_W) (H : Heap) (locs : List Loc), XIv cyI cyJ cyZ cyO T pd im x X → MIv cyI cyJ cyZ cyO T pd im mm M → tw (dC, dI) vwCl (fun q : Nat => s.heap.size ≤ q) X M H → va_S (fun q : Nat => s.heap.size ≤ q) s.heap H locs → W p l e room_1 s m #[Value.ref b] below meth c H locs 68 29652 Z (F0 m 940 ls [])) : W p l e room_1 s m #[Value.ref b] below meth c H locs 68 29652 Z (F0 m 917 ls []) := by
  obtain ⟨hx, hb, hml, hown, hts, hr, hlocks, hK, hN, hbl⟩ := id C0
  have hbA : ¬ (fun q : Nat => s.heap.size ≤ q) b := Nat.not_le.mpr hbl
  refine lv_aload_n hx hb dL_law_917 rfl (lv_at hl 1 rfl) ?_
  refine lv_aload_n hx hb dL_law_918 rfl (lv_at hl 0 rfl) ?_
  refine lv_iload_n hx hb dL_law_919 rfl (lv_at hl 3 rfl) ?_
  refine lv_iconst (v := 1) hx hb dL_law_920 (by decide) ?_
  refine lv_iadd hx hb dL_law_921 ?_
  refine va_sld hx hb hX9 hbl hbA hS (inK hi hL (k := 1) (by decide) rfl) dL_law_922 ?_
  refine lX_told C0 hXI h2 hS hl.1 _ (fun X H locs hXI h2 hS => ?_)
  refine lv_aload_n hx hb dL_law_926 rfl (lv_at hl 2 rfl) ?_
  refine lv_aload_n hx hb dL_law_927 rfl (lv_at hl 0 rfl) ?_
  refine lv_iload_n hx hb dL_law_928 rfl (lv_at hl 3 rfl) ?_
  refine lv_iconst (v := 1) hx hb dL_law_929 (by decide) ?_
  refine lv_iadd hx hb dL_law_930 ?_
  refine va_sld hx hb hX9 hbl hbA hS (inK hi hL (k := 1) (by decide) rfl) dL_law_931 ?_
  refine lM_told C0 hMI h2.swap hS hl.1 _ _ (fun M H locs hMI h2 hS => ?_)
  exact lv_icmp_eq (tgt := 940) hx hb dL_law_935 (by decide) (fun _ => K _ _ _ _ _ _ _ hXI hMI h2.swap hS) (fun h9 => absurd rfl h9)
