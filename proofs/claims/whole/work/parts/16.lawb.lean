set_option maxHeartbeats 4000000 in
set_option maxRecDepth 100000 in
theorem law_c0 {p : Program} {l : Launch} {e : Env} {s : State} {m : MethodId} {below : List Frame} {meth : Method} {c : Code} {b L : Nat} {xs : Nat → Int32} (hL : L ≤ 3072) (C0 : lw_At p s m meth c b L xs) {D : va_G} {cy : Nat → ClassId} {adC adM : Nat → Nat} {σC σM : zS} {H : Heap} {locs : List Loc} {TC TM : zT} {INV : zS → zS → Prop} {N : Nat} (hop : ∀ x0 x1 x2 x3 x4 : Int32, zAg INV (f_X11_addShape TC N σC 0 x0 x1 x2 x3 x4) (f_X12_addShape TM N σM 0 x0 x1 x2 x3 x4)) {i : Nat} (hi : i + 6 ≤ L) {x3 : Int32} (e3 : x3 = nI i) (hZ : zLL TC TM D cy adC adM σC σM H locs s) {ls : Array Slot} (hl : lv_has ls 4 [(3, .int x3), (2, .ref (adM 0)), (1, .ref (adC 0)), (0, .ref b)])
    (kk : ∀ (σ1 σ2 : zS) (H : Heap) (locs : List Loc), INV σ1 σ2 → zLL TC TM D cy adC adM σ1 σ2 H locs s → W p l e room_1 s m #[Value.ref b] below meth c H locs 390 5709 (lw_Z below #[Value.ref b] s) (F0 m 1095 ls [])) : W p l e room_1 s m #[Value.ref b] below meth c H locs 390 5709 (lw_Z below #[Value.ref b] s) (F0 m 176 ls []) := by
  obtain ⟨hx, hb, hr, hml, hown, hts0, hX, hbl, hlocks, hgv⟩ := C0
  have hts : ∀ w ∈ WA, w.before #[Value.ref b] s = true := fun w h => hts0 w (wA_tbl w h)
  have S : CallFix p m c code 4 s #[Value.ref b] WA RL := ⟨hx, hb, hml, hown, hts⟩
  have hbA : ¬ zAL s b := Nat.not_le.mpr hbl
  refine lv_aload_n hx hb dL_law_176 rfl (lv_at hl 2 rfl) ?_
  refine lv_aload_n hx hb dL_law_177 rfl (lv_at hl 3 rfl) ?_
  refine lv_iload_n hx hb dL_law_178 rfl (lv_at hl 0 rfl) ?_
  refine lv_iconst (v := nI 1) hx hb dL_law_179 (by decide) ?_
  refine lv_iadd hx hb dL_law_180 ?_
  refine va_sld hx hb hX hbl hbA hZ.1.2.2.2.1 (zL_idx hL e3 (k := 1) (by decide) hi) dL_law_181 ?_
  refine lv_aload_n hx hb dL_law_182 rfl (lv_at hl 3 rfl) ?_
  refine lv_iload_n hx hb dL_law_183 rfl (lv_at hl 0 rfl) ?_
  refine lv_iconst (v := nI 2) hx hb dL_law_184 (by decide) ?_
  refine lv_iadd hx hb dL_law_185 ?_
  refine va_sld hx hb hX hbl hbA hZ.1.2.2.2.1 (zL_idx hL e3 (k := 2) (by decide) hi) dL_law_186 ?_
  refine lv_aload_n hx hb dL_law_187 rfl (lv_at hl 3 rfl) ?_
  refine lv_iload_n hx hb dL_law_188 rfl (lv_at hl 0 rfl) ?_
  refine lv_iconst (v := nI 3) hx hb dL_law_189 (by decide) ?_
  refine lv_iadd hx hb dL_law_190 ?_
  refine va_sld hx hb hX hbl hbA hZ.1.2.2.2.1 (zL_idx hL e3 (k := 3) (by decide) hi) dL_law_191 ?_
  refine lv_aload_n hx hb dL_law_192 rfl (lv_at hl 3 rfl) ?_
  refine lv_iload_n hx hb dL_law_193 rfl (lv_at hl 0 rfl) ?_
  refine lv_iconst (v := nI 4) hx hb dL_law_194 (by decide) ?_
  refine lv_iadd hx hb dL_law_195 ?_
  refine va_sld hx hb hX hbl hbA hZ.1.2.2.2.1 (zL_idx hL e3 (k := 4) (by decide) hi) dL_law_196 ?_
  refine lv_aload_n hx hb dL_law_197 rfl (lv_at hl 3 rfl) ?_
  refine lv_iload_n hx hb dL_law_198 rfl (lv_at hl 0 rfl) ?_
  refine lv_iconst (v := nI 5) hx hb dL_law_199 (by decide) ?_
  refine lv_iadd hx hb dL_law_200 ?_
  refine va_sld hx hb hX hbl hbA hZ.1.2.2.2.1 (zL_idx hL e3 (k := 5) (by decide) hi) dL_law_201 ?_
  obtain ⟨r, σ1, σ2, h1, h2, hI⟩ := hop (xs (x3 + nI 1).toNatClampNeg) (xs (x3 + nI 2).toNatClampNeg) (xs (x3 + nI 3).toNatClampNeg) (xs (x3 + nI 4).toNatClampNeg) (xs (x3 + nI 5).toNatClampNeg)
  refine zz_lawi S hZ.2.2.1 hZ.1 hZ.2.1 hZ.2.2.2.2 (As := [.int (xs (x3 + nI 1).toNatClampNeg), .int (xs (x3 + nI 2).toNatClampNeg), .int (xs (x3 + nI 3).toNatClampNeg), .int (xs (x3 + nI 4).toNatClampNeg), .int (xs (x3 + nI 5).toNatClampNeg)]) (b := 0) (c_X11_addShape l D cy TC hZ.2.2.1 adC N σC _ 0 (xs (x3 + nI 1).toNatClampNeg) (xs (x3 + nI 2).toNatClampNeg) (xs (x3 + nI 3).toNatClampNeg) (xs (x3 + nI 4).toNatClampNeg) (xs (x3 + nI 5).toNatClampNeg) r σ1 h1) (cwV 5 hts (gV (fun _ h => h) wd_868 wd_869 wd_870 wd_102 wd_871) rfl rfl rfl (by decide +kernel) ⟨Nat.le_of_ble_eq_true rfl, Nat.le_of_ble_eq_true rfl⟩) (F := TX11) (NF := 5) 11 rfl (by decide) (k_X11_addShape TC N σC 0 (xs (x3 + nI 1).toNatClampNeg) (xs (x3 + nI 2).toNatClampNeg) (xs (x3 + nI 3).toNatClampNeg) (xs (x3 + nI 4).toNatClampNeg) (xs (x3 + nI 5).toNatClampNeg) _ h1) rfl hl.1 rfl (Nat.le_of_ble_eq_true rfl) dL_law_202 ⟨Nat.le_of_ble_eq_true rfl, Nat.le_of_ble_eq_true rfl⟩ (fun H locs hB1 hB2 => ?_)
  refine lv_aload_n hx hb dL_law_205 rfl (lv_at hl 1 rfl) ?_
  refine lv_aload_n hx hb dL_law_206 rfl (lv_at hl 3 rfl) ?_
  refine lv_iload_n hx hb dL_law_207 rfl (lv_at hl 0 rfl) ?_
  refine lv_iconst (v := nI 1) hx hb dL_law_208 (by decide) ?_
  refine lv_iadd hx hb dL_law_209 ?_
  refine va_sld hx hb hX hbl hbA hB1.2.2.2.1 (zL_idx hL e3 (k := 1) (by decide) hi) dL_law_210 ?_
  refine lv_aload_n hx hb dL_law_211 rfl (lv_at hl 3 rfl) ?_
  refine lv_iload_n hx hb dL_law_212 rfl (lv_at hl 0 rfl) ?_
  refine lv_iconst (v := nI 2) hx hb dL_law_213 (by decide) ?_
  refine lv_iadd hx hb dL_law_214 ?_
  refine va_sld hx hb hX hbl hbA hB1.2.2.2.1 (zL_idx hL e3 (k := 2) (by decide) hi) dL_law_215 ?_
  refine lv_aload_n hx hb dL_law_216 rfl (lv_at hl 3 rfl) ?_
  refine lv_iload_n hx hb dL_law_217 rfl (lv_at hl 0 rfl) ?_
  refine lv_iconst (v := nI 3) hx hb dL_law_218 (by decide) ?_
  refine lv_iadd hx hb dL_law_219 ?_
  refine va_sld hx hb hX hbl hbA hB1.2.2.2.1 (zL_idx hL e3 (k := 3) (by decide) hi) dL_law_220 ?_
  refine lv_aload_n hx hb dL_law_221 rfl (lv_at hl 3 rfl) ?_
  refine lv_iload_n hx hb dL_law_222 rfl (lv_at hl 0 rfl) ?_
  refine lv_iconst (v := nI 4) hx hb dL_law_223 (by decide) ?_
  refine lv_iadd hx hb dL_law_224 ?_
  refine va_sld hx hb hX hbl hbA hB1.2.2.2.1 (zL_idx hL e3 (k := 4) (by decide) hi) dL_law_225 ?_
  refine lv_aload_n hx hb dL_law_226 rfl (lv_at hl 3 rfl) ?_
  refine lv_iload_n hx hb dL_law_227 rfl (lv_at hl 0 rfl) ?_
  refine lv_iconst (v := nI 5) hx hb dL_law_228 (by decide) ?_
  refine lv_iadd hx hb dL_law_229 ?_
  refine va_sld hx hb hX hbl hbA hB1.2.2.2.1 (zL_idx hL e3 (k := 5) (by decide) hi) dL_law_230 ?_
  refine zz_lawi S hZ.2.2.2.1 hB2 hB1 (fun c c' h h' e => hZ.2.2.2.2 c' c h' h e.symm) (As := [.int (xs (x3 + nI 1).toNatClampNeg), .int (xs (x3 + nI 2).toNatClampNeg), .int (xs (x3 + nI 3).toNatClampNeg), .int (xs (x3 + nI 4).toNatClampNeg), .int (xs (x3 + nI 5).toNatClampNeg)]) (b := 0) (c_X12_addShape l D cy TM hZ.2.2.2.1 adM N σM _ 0 (xs (x3 + nI 1).toNatClampNeg) (xs (x3 + nI 2).toNatClampNeg) (xs (x3 + nI 3).toNatClampNeg) (xs (x3 + nI 4).toNatClampNeg) (xs (x3 + nI 5).toNatClampNeg) r σ2 h2) (cwV 5 hts (gV (fun _ h => h) wd_872 wd_873 wd_874 wd_572 wd_875) rfl rfl rfl (by decide +kernel) ⟨Nat.le_of_ble_eq_true rfl, Nat.le_of_ble_eq_true rfl⟩) (F := TX12) (NF := 24) 12 rfl (by decide) (k_X12_addShape TM N σM 0 (xs (x3 + nI 1).toNatClampNeg) (xs (x3 + nI 2).toNatClampNeg) (xs (x3 + nI 3).toNatClampNeg) (xs (x3 + nI 4).toNatClampNeg) (xs (x3 + nI 5).toNatClampNeg) _ h2) rfl hl.1 rfl (Nat.le_of_ble_eq_true rfl) dL_law_231 ⟨Nat.le_of_ble_eq_true rfl, Nat.le_of_ble_eq_true rfl⟩ (fun H locs hB2 hB1 => ?_)
  refine lv_icmp_eq (tgt := 1095) hx hb dL_law_234 (by decide) (fun _ => ?_) (fun h => absurd rfl h)
  exact kk σ1 σ2 H locs hI ⟨hB1, hB2, hZ.2.2⟩
set_option maxHeartbeats 4000000 in
set_option maxRecDepth 100000 in
theorem law_c1 {p : Program} {l : Launch} {e : Env} {s : State} {m : MethodId} {below : List Frame} {meth : Method} {c : Code} {b L : Nat} {xs : Nat → Int32} (hL : L ≤ 3072) (C0 : lw_At p s m meth c b L xs) {D : va_G} {cy : Nat → ClassId} {adC adM : Nat → Nat} {σC σM : zS} {H : Heap} {locs : List Loc} {TC TM : zT} {INV : zS → zS → Prop} {N : Nat} (hop : ∀ x0 : Int32, zAg INV (f_X11_removeShape TC N σC 0 x0) (f_X12_removeShape TM N σM 0 x0)) {i : Nat} (hi : i + 6 ≤ L) {x3 : Int32} (e3 : x3 = nI i) (hZ : zLL TC TM D cy adC adM σC σM H locs s) {ls : Array Slot} (hl : lv_has ls 4 [(3, .int x3), (2, .ref (adM 0)), (1, .ref (adC 0)), (0, .ref b)])
    (kk : ∀ (σ1 σ2 : zS) (H : Heap) (locs : List Loc), INV σ1 σ2 → zLL TC TM D cy adC adM σ1 σ2 H locs s → W p l e room_1 s m #[Value.ref b] below meth c H locs 390 5709 (lw_Z below #[Value.ref b] s) (F0 m 1095 ls [])) : W p l e room_1 s m #[Value.ref b] below meth c H locs 390 5709 (lw_Z below #[Value.ref b] s) (F0 m 239 ls []) := by
  obtain ⟨hx, hb, hr, hml, hown, hts0, hX, hbl, hlocks, hgv⟩ := C0
  have hts : ∀ w ∈ WA, w.before #[Value.ref b] s = true := fun w h => hts0 w (wA_tbl w h)
  have S : CallFix p m c code 4 s #[Value.ref b] WA RL := ⟨hx, hb, hml, hown, hts⟩
  have hbA : ¬ zAL s b := Nat.not_le.mpr hbl
  refine lv_aload_n hx hb dL_law_239 rfl (lv_at hl 2 rfl) ?_
  refine lv_aload_n hx hb dL_law_240 rfl (lv_at hl 3 rfl) ?_
  refine lv_iload_n hx hb dL_law_241 rfl (lv_at hl 0 rfl) ?_
  refine lv_iconst (v := nI 1) hx hb dL_law_242 (by decide) ?_
  refine lv_iadd hx hb dL_law_243 ?_
  refine va_sld hx hb hX hbl hbA hZ.1.2.2.2.1 (zL_idx hL e3 (k := 1) (by decide) hi) dL_law_244 ?_
  obtain ⟨r, σ1, σ2, h1, h2, hI⟩ := hop (xs (x3 + nI 1).toNatClampNeg)
  refine zz_lawi S hZ.2.2.1 hZ.1 hZ.2.1 hZ.2.2.2.2 (As := [.int (xs (x3 + nI 1).toNatClampNeg)]) (b := 0) (c_X11_removeShape l D cy TC hZ.2.2.1 adC N σC _ 0 (xs (x3 + nI 1).toNatClampNeg) r σ1 h1) (cwV 1 hts (gV (fun _ h => h) wd_876 wd_877 wd_878 wd_102 wd_879) rfl rfl rfl (by decide +kernel) ⟨Nat.le_of_ble_eq_true rfl, Nat.le_of_ble_eq_true rfl⟩) (F := TX11) (NF := 5) 11 rfl (by decide) (k_X11_removeShape TC N σC 0 (xs (x3 + nI 1).toNatClampNeg) _ h1) rfl hl.1 rfl (Nat.le_of_ble_eq_true rfl) dL_law_245 ⟨Nat.le_of_ble_eq_true rfl, Nat.le_of_ble_eq_true rfl⟩ (fun H locs hB1 hB2 => ?_)
  refine lv_aload_n hx hb dL_law_248 rfl (lv_at hl 1 rfl) ?_
  refine lv_aload_n hx hb dL_law_249 rfl (lv_at hl 3 rfl) ?_
  refine lv_iload_n hx hb dL_law_250 rfl (lv_at hl 0 rfl) ?_
  refine lv_iconst (v := nI 1) hx hb dL_law_251 (by decide) ?_
  refine lv_iadd hx hb dL_law_252 ?_
  refine va_sld hx hb hX hbl hbA hB1.2.2.2.1 (zL_idx hL e3 (k := 1) (by decide) hi) dL_law_253 ?_
  refine zz_lawi S hZ.2.2.2.1 hB2 hB1 (fun c c' h h' e => hZ.2.2.2.2 c' c h' h e.symm) (As := [.int (xs (x3 + nI 1).toNatClampNeg)]) (b := 0) (c_X12_removeShape l D cy TM hZ.2.2.2.1 adM N σM _ 0 (xs (x3 + nI 1).toNatClampNeg) r σ2 h2) (cwV 1 hts (gV (fun _ h => h) wd_880 wd_881 wd_882 wd_572 wd_883) rfl rfl rfl (by decide +kernel) ⟨Nat.le_of_ble_eq_true rfl, Nat.le_of_ble_eq_true rfl⟩) (F := TX12) (NF := 24) 12 rfl (by decide) (k_X12_removeShape TM N σM 0 (xs (x3 + nI 1).toNatClampNeg) _ h2) rfl hl.1 rfl (Nat.le_of_ble_eq_true rfl) dL_law_254 ⟨Nat.le_of_ble_eq_true rfl, Nat.le_of_ble_eq_true rfl⟩ (fun H locs hB2 hB1 => ?_)
  refine lv_icmp_eq (tgt := 1095) hx hb dL_law_257 (by decide) (fun _ => ?_) (fun h => absurd rfl h)
  exact kk σ1 σ2 H locs hI ⟨hB1, hB2, hZ.2.2⟩
set_option maxHeartbeats 4000000 in
set_option maxRecDepth 100000 in
theorem law_c2 {p : Program} {l : Launch} {e : Env} {s : State} {m : MethodId} {below : List Frame} {meth : Method} {c : Code} {b L : Nat} {xs : Nat → Int32} (hL : L ≤ 3072) (C0 : lw_At p s m meth c b L xs) {D : va_G} {cy : Nat → ClassId} {adC adM : Nat → Nat} {σC σM : zS} {H : Heap} {locs : List Loc} {TC TM : zT} {INV : zS → zS → Prop} {N : Nat} (hop : ∀ x0 x1 x2 : Int32, zAg INV (f_X11_resize TC N σC 0 x0 x1 x2) (f_X12_resize TM N σM 0 x0 x1 x2)) {i : Nat} (hi : i + 6 ≤ L) {x3 : Int32} (e3 : x3 = nI i) (hZ : zLL TC TM D cy adC adM σC σM H locs s) {ls : Array Slot} (hl : lv_has ls 4 [(3, .int x3), (2, .ref (adM 0)), (1, .ref (adC 0)), (0, .ref b)])
    (kk : ∀ (σ1 σ2 : zS) (H : Heap) (locs : List Loc), INV σ1 σ2 → zLL TC TM D cy adC adM σ1 σ2 H locs s → W p l e room_1 s m #[Value.ref b] below meth c H locs 390 5709 (lw_Z below #[Value.ref b] s) (F0 m 1095 ls [])) : W p l e room_1 s m #[Value.ref b] below meth c H locs 390 5709 (lw_Z below #[Value.ref b] s) (F0 m 262 ls []) := by
  obtain ⟨hx, hb, hr, hml, hown, hts0, hX, hbl, hlocks, hgv⟩ := C0
  have hts : ∀ w ∈ WA, w.before #[Value.ref b] s = true := fun w h => hts0 w (wA_tbl w h)
  have S : CallFix p m c code 4 s #[Value.ref b] WA RL := ⟨hx, hb, hml, hown, hts⟩
  have hbA : ¬ zAL s b := Nat.not_le.mpr hbl
  refine lv_aload_n hx hb dL_law_262 rfl (lv_at hl 2 rfl) ?_
  refine lv_aload_n hx hb dL_law_263 rfl (lv_at hl 3 rfl) ?_
  refine lv_iload_n hx hb dL_law_264 rfl (lv_at hl 0 rfl) ?_
  refine lv_iconst (v := nI 1) hx hb dL_law_265 (by decide) ?_
  refine lv_iadd hx hb dL_law_266 ?_
  refine va_sld hx hb hX hbl hbA hZ.1.2.2.2.1 (zL_idx hL e3 (k := 1) (by decide) hi) dL_law_267 ?_
  refine lv_aload_n hx hb dL_law_268 rfl (lv_at hl 3 rfl) ?_
  refine lv_iload_n hx hb dL_law_269 rfl (lv_at hl 0 rfl) ?_
  refine lv_iconst (v := nI 2) hx hb dL_law_270 (by decide) ?_
  refine lv_iadd hx hb dL_law_271 ?_
  refine va_sld hx hb hX hbl hbA hZ.1.2.2.2.1 (zL_idx hL e3 (k := 2) (by decide) hi) dL_law_272 ?_
  refine lv_aload_n hx hb dL_law_273 rfl (lv_at hl 3 rfl) ?_
  refine lv_iload_n hx hb dL_law_274 rfl (lv_at hl 0 rfl) ?_
  refine lv_iconst (v := nI 3) hx hb dL_law_275 (by decide) ?_
  refine lv_iadd hx hb dL_law_276 ?_
  refine va_sld hx hb hX hbl hbA hZ.1.2.2.2.1 (zL_idx hL e3 (k := 3) (by decide) hi) dL_law_277 ?_
  obtain ⟨r, σ1, σ2, h1, h2, hI⟩ := hop (xs (x3 + nI 1).toNatClampNeg) (xs (x3 + nI 2).toNatClampNeg) (xs (x3 + nI 3).toNatClampNeg)
  refine zz_lawi S hZ.2.2.1 hZ.1 hZ.2.1 hZ.2.2.2.2 (As := [.int (xs (x3 + nI 1).toNatClampNeg), .int (xs (x3 + nI 2).toNatClampNeg), .int (xs (x3 + nI 3).toNatClampNeg)]) (b := 0) (c_X11_resize l D cy TC hZ.2.2.1 adC N σC _ 0 (xs (x3 + nI 1).toNatClampNeg) (xs (x3 + nI 2).toNatClampNeg) (xs (x3 + nI 3).toNatClampNeg) r σ1 h1) (cwV 3 hts (gV (fun _ h => h) wd_884 wd_885 wd_886 wd_102 wd_887) rfl rfl rfl (by decide +kernel) ⟨Nat.le_of_ble_eq_true rfl, Nat.le_of_ble_eq_true rfl⟩) (F := TX11) (NF := 5) 11 rfl (by decide) (k_X11_resize TC N σC 0 (xs (x3 + nI 1).toNatClampNeg) (xs (x3 + nI 2).toNatClampNeg) (xs (x3 + nI 3).toNatClampNeg) _ h1) rfl hl.1 rfl (Nat.le_of_ble_eq_true rfl) dL_law_278 ⟨Nat.le_of_ble_eq_true rfl, Nat.le_of_ble_eq_true rfl⟩ (fun H locs hB1 hB2 => ?_)
  refine lv_aload_n hx hb dL_law_281 rfl (lv_at hl 1 rfl) ?_
  refine lv_aload_n hx hb dL_law_282 rfl (lv_at hl 3 rfl) ?_
  refine lv_iload_n hx hb dL_law_283 rfl (lv_at hl 0 rfl) ?_
  refine lv_iconst (v := nI 1) hx hb dL_law_284 (by decide) ?_
  refine lv_iadd hx hb dL_law_285 ?_
  refine va_sld hx hb hX hbl hbA hB1.2.2.2.1 (zL_idx hL e3 (k := 1) (by decide) hi) dL_law_286 ?_
  refine lv_aload_n hx hb dL_law_287 rfl (lv_at hl 3 rfl) ?_
  refine lv_iload_n hx hb dL_law_288 rfl (lv_at hl 0 rfl) ?_
  refine lv_iconst (v := nI 2) hx hb dL_law_289 (by decide) ?_
  refine lv_iadd hx hb dL_law_290 ?_
  refine va_sld hx hb hX hbl hbA hB1.2.2.2.1 (zL_idx hL e3 (k := 2) (by decide) hi) dL_law_291 ?_
  refine lv_aload_n hx hb dL_law_292 rfl (lv_at hl 3 rfl) ?_
  refine lv_iload_n hx hb dL_law_293 rfl (lv_at hl 0 rfl) ?_
  refine lv_iconst (v := nI 3) hx hb dL_law_294 (by decide) ?_
  refine lv_iadd hx hb dL_law_295 ?_
  refine va_sld hx hb hX hbl hbA hB1.2.2.2.1 (zL_idx hL e3 (k := 3) (by decide) hi) dL_law_296 ?_
  refine zz_lawi S hZ.2.2.2.1 hB2 hB1 (fun c c' h h' e => hZ.2.2.2.2 c' c h' h e.symm) (As := [.int (xs (x3 + nI 1).toNatClampNeg), .int (xs (x3 + nI 2).toNatClampNeg), .int (xs (x3 + nI 3).toNatClampNeg)]) (b := 0) (c_X12_resize l D cy TM hZ.2.2.2.1 adM N σM _ 0 (xs (x3 + nI 1).toNatClampNeg) (xs (x3 + nI 2).toNatClampNeg) (xs (x3 + nI 3).toNatClampNeg) r σ2 h2) (cwV 3 hts (gV (fun _ h => h) wd_888 wd_889 wd_890 wd_572 wd_891) rfl rfl rfl (by decide +kernel) ⟨Nat.le_of_ble_eq_true rfl, Nat.le_of_ble_eq_true rfl⟩) (F := TX12) (NF := 24) 12 rfl (by decide) (k_X12_resize TM N σM 0 (xs (x3 + nI 1).toNatClampNeg) (xs (x3 + nI 2).toNatClampNeg) (xs (x3 + nI 3).toNatClampNeg) _ h2) rfl hl.1 rfl (Nat.le_of_ble_eq_true rfl) dL_law_297 ⟨Nat.le_of_ble_eq_true rfl, Nat.le_of_ble_eq_true rfl⟩ (fun H locs hB2 hB1 => ?_)
  refine lv_icmp_eq (tgt := 1095) hx hb dL_law_300 (by decide) (fun _ => ?_) (fun h => absurd rfl h)
  exact kk σ1 σ2 H locs hI ⟨hB1, hB2, hZ.2.2⟩
set_option maxHeartbeats 4000000 in
set_option maxRecDepth 100000 in
theorem law_c3 {p : Program} {l : Launch} {e : Env} {s : State} {m : MethodId} {below : List Frame} {meth : Method} {c : Code} {b L : Nat} {xs : Nat → Int32} (hL : L ≤ 3072) (C0 : lw_At p s m meth c b L xs) {D : va_G} {cy : Nat → ClassId} {adC adM : Nat → Nat} {σC σM : zS} {H : Heap} {locs : List Loc} {TC TM : zT} {INV : zS → zS → Prop} {N : Nat} (hop : ∀ x0 x1 : Int32, zAg INV (f_X11_shape TC N σC 0 x0 x1) (f_X12_shape TM N σM 0 x0 x1)) {i : Nat} (hi : i + 6 ≤ L) {x3 : Int32} (e3 : x3 = nI i) (hZ : zLL TC TM D cy adC adM σC σM H locs s) {ls : Array Slot} (hl : lv_has ls 4 [(3, .int x3), (2, .ref (adM 0)), (1, .ref (adC 0)), (0, .ref b)])
    (kk : ∀ (σ1 σ2 : zS) (H : Heap) (locs : List Loc), INV σ1 σ2 → zLL TC TM D cy adC adM σ1 σ2 H locs s → W p l e room_1 s m #[Value.ref b] below meth c H locs 390 5709 (lw_Z below #[Value.ref b] s) (F0 m 1095 ls [])) : W p l e room_1 s m #[Value.ref b] below meth c H locs 390 5709 (lw_Z below #[Value.ref b] s) (F0 m 305 ls []) := by
  obtain ⟨hx, hb, hr, hml, hown, hts0, hX, hbl, hlocks, hgv⟩ := C0
  have hts : ∀ w ∈ WA, w.before #[Value.ref b] s = true := fun w h => hts0 w (wA_tbl w h)
  have S : CallFix p m c code 4 s #[Value.ref b] WA RL := ⟨hx, hb, hml, hown, hts⟩
  have hbA : ¬ zAL s b := Nat.not_le.mpr hbl
  refine lv_aload_n hx hb dL_law_305 rfl (lv_at hl 2 rfl) ?_
  refine lv_aload_n hx hb dL_law_306 rfl (lv_at hl 3 rfl) ?_
  refine lv_iload_n hx hb dL_law_307 rfl (lv_at hl 0 rfl) ?_
  refine lv_iconst (v := nI 1) hx hb dL_law_308 (by decide) ?_
  refine lv_iadd hx hb dL_law_309 ?_
  refine va_sld hx hb hX hbl hbA hZ.1.2.2.2.1 (zL_idx hL e3 (k := 1) (by decide) hi) dL_law_310 ?_
  refine lv_aload_n hx hb dL_law_311 rfl (lv_at hl 3 rfl) ?_
  refine lv_iload_n hx hb dL_law_312 rfl (lv_at hl 0 rfl) ?_
  refine lv_iconst (v := nI 2) hx hb dL_law_313 (by decide) ?_
  refine lv_iadd hx hb dL_law_314 ?_
  refine va_sld hx hb hX hbl hbA hZ.1.2.2.2.1 (zL_idx hL e3 (k := 2) (by decide) hi) dL_law_315 ?_
  obtain ⟨r, σ1, σ2, h1, h2, hI⟩ := hop (xs (x3 + nI 1).toNatClampNeg) (xs (x3 + nI 2).toNatClampNeg)
  refine zz_lawi S hZ.2.2.1 hZ.1 hZ.2.1 hZ.2.2.2.2 (As := [.int (xs (x3 + nI 1).toNatClampNeg), .int (xs (x3 + nI 2).toNatClampNeg)]) (b := 0) (c_X11_shape l D cy TC hZ.2.2.1 adC N σC _ 0 (xs (x3 + nI 1).toNatClampNeg) (xs (x3 + nI 2).toNatClampNeg) r σ1 h1) (cwV 2 hts (gV (fun _ h => h) wd_892 wd_555 wd_556 wd_102 wd_557) rfl rfl rfl (by decide +kernel) ⟨Nat.le_of_ble_eq_true rfl, Nat.le_of_ble_eq_true rfl⟩) (F := TX11) (NF := 5) 11 rfl (by decide) (k_X11_shape TC N σC 0 (xs (x3 + nI 1).toNatClampNeg) (xs (x3 + nI 2).toNatClampNeg) _ h1) rfl hl.1 rfl (Nat.le_of_ble_eq_true rfl) dL_law_316 ⟨Nat.le_of_ble_eq_true rfl, Nat.le_of_ble_eq_true rfl⟩ (fun H locs hB1 hB2 => ?_)
  refine lv_aload_n hx hb dL_law_319 rfl (lv_at hl 1 rfl) ?_
  refine lv_aload_n hx hb dL_law_320 rfl (lv_at hl 3 rfl) ?_
  refine lv_iload_n hx hb dL_law_321 rfl (lv_at hl 0 rfl) ?_
  refine lv_iconst (v := nI 1) hx hb dL_law_322 (by decide) ?_
  refine lv_iadd hx hb dL_law_323 ?_
  refine va_sld hx hb hX hbl hbA hB1.2.2.2.1 (zL_idx hL e3 (k := 1) (by decide) hi) dL_law_324 ?_
  refine lv_aload_n hx hb dL_law_325 rfl (lv_at hl 3 rfl) ?_
  refine lv_iload_n hx hb dL_law_326 rfl (lv_at hl 0 rfl) ?_
  refine lv_iconst (v := nI 2) hx hb dL_law_327 (by decide) ?_
  refine lv_iadd hx hb dL_law_328 ?_
  refine va_sld hx hb hX hbl hbA hB1.2.2.2.1 (zL_idx hL e3 (k := 2) (by decide) hi) dL_law_329 ?_
  refine zz_lawi S hZ.2.2.2.1 hB2 hB1 (fun c c' h h' e => hZ.2.2.2.2 c' c h' h e.symm) (As := [.int (xs (x3 + nI 1).toNatClampNeg), .int (xs (x3 + nI 2).toNatClampNeg)]) (b := 0) (c_X12_shape l D cy TM hZ.2.2.2.1 adM N σM _ 0 (xs (x3 + nI 1).toNatClampNeg) (xs (x3 + nI 2).toNatClampNeg) r σ2 h2) (cwV 2 hts (gV (fun _ h => h) wd_893 wd_894 wd_895 wd_572 wd_896) rfl rfl rfl (by decide +kernel) ⟨Nat.le_of_ble_eq_true rfl, Nat.le_of_ble_eq_true rfl⟩) (F := TX12) (NF := 24) 12 rfl (by decide) (k_X12_shape TM N σM 0 (xs (x3 + nI 1).toNatClampNeg) (xs (x3 + nI 2).toNatClampNeg) _ h2) rfl hl.1 rfl (Nat.le_of_ble_eq_true rfl) dL_law_330 ⟨Nat.le_of_ble_eq_true rfl, Nat.le_of_ble_eq_true rfl⟩ (fun H locs hB2 hB1 => ?_)
  refine lv_icmp_eq (tgt := 1095) hx hb dL_law_333 (by decide) (fun _ => ?_) (fun h => absurd rfl h)
  exact kk σ1 σ2 H locs hI ⟨hB1, hB2, hZ.2.2⟩
set_option maxHeartbeats 4000000 in
set_option maxRecDepth 100000 in
theorem law_c4 {p : Program} {l : Launch} {e : Env} {s : State} {m : MethodId} {below : List Frame} {meth : Method} {c : Code} {b L : Nat} {xs : Nat → Int32} (hL : L ≤ 3072) (C0 : lw_At p s m meth c b L xs) {D : va_G} {cy : Nat → ClassId} {adC adM : Nat → Nat} {σC σM : zS} {H : Heap} {locs : List Loc} {TC TM : zT} {INV : zS → zS → Prop} {N : Nat} (hop : ∀ x0 x1 x2 : Int32, zAg INV (f_X11_port TC N σC 0 x0 x1 x2) (f_X12_port TM N σM 0 x0 x1 x2)) {i : Nat} (hi : i + 6 ≤ L) {x3 : Int32} (e3 : x3 = nI i) (hZ : zLL TC TM D cy adC adM σC σM H locs s) {ls : Array Slot} (hl : lv_has ls 4 [(3, .int x3), (2, .ref (adM 0)), (1, .ref (adC 0)), (0, .ref b)])
    (kk : ∀ (σ1 σ2 : zS) (H : Heap) (locs : List Loc), INV σ1 σ2 → zLL TC TM D cy adC adM σ1 σ2 H locs s → W p l e room_1 s m #[Value.ref b] below meth c H locs 390 5709 (lw_Z below #[Value.ref b] s) (F0 m 1095 ls [])) : W p l e room_1 s m #[Value.ref b] below meth c H locs 390 5709 (lw_Z below #[Value.ref b] s) (F0 m 338 ls []) := by
  obtain ⟨hx, hb, hr, hml, hown, hts0, hX, hbl, hlocks, hgv⟩ := C0
  have hts : ∀ w ∈ WA, w.before #[Value.ref b] s = true := fun w h => hts0 w (wA_tbl w h)
  have S : CallFix p m c code 4 s #[Value.ref b] WA RL := ⟨hx, hb, hml, hown, hts⟩
  have hbA : ¬ zAL s b := Nat.not_le.mpr hbl
  refine lv_aload_n hx hb dL_law_338 rfl (lv_at hl 2 rfl) ?_
  refine lv_aload_n hx hb dL_law_339 rfl (lv_at hl 3 rfl) ?_
  refine lv_iload_n hx hb dL_law_340 rfl (lv_at hl 0 rfl) ?_
  refine lv_iconst (v := nI 1) hx hb dL_law_341 (by decide) ?_
  refine lv_iadd hx hb dL_law_342 ?_
  refine va_sld hx hb hX hbl hbA hZ.1.2.2.2.1 (zL_idx hL e3 (k := 1) (by decide) hi) dL_law_343 ?_
  refine lv_aload_n hx hb dL_law_344 rfl (lv_at hl 3 rfl) ?_
  refine lv_iload_n hx hb dL_law_345 rfl (lv_at hl 0 rfl) ?_
  refine lv_iconst (v := nI 2) hx hb dL_law_346 (by decide) ?_
  refine lv_iadd hx hb dL_law_347 ?_
  refine va_sld hx hb hX hbl hbA hZ.1.2.2.2.1 (zL_idx hL e3 (k := 2) (by decide) hi) dL_law_348 ?_
  refine lv_aload_n hx hb dL_law_349 rfl (lv_at hl 3 rfl) ?_
  refine lv_iload_n hx hb dL_law_350 rfl (lv_at hl 0 rfl) ?_
  refine lv_iconst (v := nI 3) hx hb dL_law_351 (by decide) ?_
  refine lv_iadd hx hb dL_law_352 ?_
  refine va_sld hx hb hX hbl hbA hZ.1.2.2.2.1 (zL_idx hL e3 (k := 3) (by decide) hi) dL_law_353 ?_
  obtain ⟨r, σ1, σ2, h1, h2, hI⟩ := hop (xs (x3 + nI 1).toNatClampNeg) (xs (x3 + nI 2).toNatClampNeg) (xs (x3 + nI 3).toNatClampNeg)
  refine zz_lawi S hZ.2.2.1 hZ.1 hZ.2.1 hZ.2.2.2.2 (As := [.int (xs (x3 + nI 1).toNatClampNeg), .int (xs (x3 + nI 2).toNatClampNeg), .int (xs (x3 + nI 3).toNatClampNeg)]) (b := 0) (c_X11_port l D cy TC hZ.2.2.1 adC N σC _ 0 (xs (x3 + nI 1).toNatClampNeg) (xs (x3 + nI 2).toNatClampNeg) (xs (x3 + nI 3).toNatClampNeg) r σ1 h1) (cwV 3 hts (gV (fun _ h => h) wd_897 wd_898 wd_899 wd_102 wd_900) rfl rfl rfl (by decide +kernel) ⟨Nat.le_of_ble_eq_true rfl, Nat.le_of_ble_eq_true rfl⟩) (F := TX11) (NF := 5) 11 rfl (by decide) (k_X11_port TC N σC 0 (xs (x3 + nI 1).toNatClampNeg) (xs (x3 + nI 2).toNatClampNeg) (xs (x3 + nI 3).toNatClampNeg) _ h1) rfl hl.1 rfl (Nat.le_of_ble_eq_true rfl) dL_law_354 ⟨Nat.le_of_ble_eq_true rfl, Nat.le_of_ble_eq_true rfl⟩ (fun H locs hB1 hB2 => ?_)
  refine lv_aload_n hx hb dL_law_357 rfl (lv_at hl 1 rfl) ?_
  refine lv_aload_n hx hb dL_law_358 rfl (lv_at hl 3 rfl) ?_
  refine lv_iload_n hx hb dL_law_359 rfl (lv_at hl 0 rfl) ?_
  refine lv_iconst (v := nI 1) hx hb dL_law_360 (by decide) ?_
  refine lv_iadd hx hb dL_law_361 ?_
  refine va_sld hx hb hX hbl hbA hB1.2.2.2.1 (zL_idx hL e3 (k := 1) (by decide) hi) dL_law_362 ?_
  refine lv_aload_n hx hb dL_law_363 rfl (lv_at hl 3 rfl) ?_
  refine lv_iload_n hx hb dL_law_364 rfl (lv_at hl 0 rfl) ?_
  refine lv_iconst (v := nI 2) hx hb dL_law_365 (by decide) ?_
  refine lv_iadd hx hb dL_law_366 ?_
  refine va_sld hx hb hX hbl hbA hB1.2.2.2.1 (zL_idx hL e3 (k := 2) (by decide) hi) dL_law_367 ?_
  refine lv_aload_n hx hb dL_law_368 rfl (lv_at hl 3 rfl) ?_
  refine lv_iload_n hx hb dL_law_369 rfl (lv_at hl 0 rfl) ?_
  refine lv_iconst (v := nI 3) hx hb dL_law_370 (by decide) ?_
  refine lv_iadd hx hb dL_law_371 ?_
  refine va_sld hx hb hX hbl hbA hB1.2.2.2.1 (zL_idx hL e3 (k := 3) (by decide) hi) dL_law_372 ?_
  refine zz_lawi S hZ.2.2.2.1 hB2 hB1 (fun c c' h h' e => hZ.2.2.2.2 c' c h' h e.symm) (As := [.int (xs (x3 + nI 1).toNatClampNeg), .int (xs (x3 + nI 2).toNatClampNeg), .int (xs (x3 + nI 3).toNatClampNeg)]) (b := 0) (c_X12_port l D cy TM hZ.2.2.2.1 adM N σM _ 0 (xs (x3 + nI 1).toNatClampNeg) (xs (x3 + nI 2).toNatClampNeg) (xs (x3 + nI 3).toNatClampNeg) r σ2 h2) (cwV 3 hts (gV (fun _ h => h) wd_901 wd_902 wd_903 wd_572 wd_904) rfl rfl rfl (by decide +kernel) ⟨Nat.le_of_ble_eq_true rfl, Nat.le_of_ble_eq_true rfl⟩) (F := TX12) (NF := 24) 12 rfl (by decide) (k_X12_port TM N σM 0 (xs (x3 + nI 1).toNatClampNeg) (xs (x3 + nI 2).toNatClampNeg) (xs (x3 + nI 3).toNatClampNeg) _ h2) rfl hl.1 rfl (Nat.le_of_ble_eq_true rfl) dL_law_373 ⟨Nat.le_of_ble_eq_true rfl, Nat.le_of_ble_eq_true rfl⟩ (fun H locs hB2 hB1 => ?_)
  refine lv_icmp_eq (tgt := 1095) hx hb dL_law_376 (by decide) (fun _ => ?_) (fun h => absurd rfl h)
  exact kk σ1 σ2 H locs hI ⟨hB1, hB2, hZ.2.2⟩
set_option maxHeartbeats 4000000 in
set_option maxRecDepth 100000 in
theorem law_c5 {p : Program} {l : Launch} {e : Env} {s : State} {m : MethodId} {below : List Frame} {meth : Method} {c : Code} {b L : Nat} {xs : Nat → Int32} (hL : L ≤ 3072) (C0 : lw_At p s m meth c b L xs) {D : va_G} {cy : Nat → ClassId} {adC adM : Nat → Nat} {σC σM : zS} {H : Heap} {locs : List Loc} {TC TM : zT} {INV : zS → zS → Prop} {N : Nat} (hop : ∀ x0 x1 : Int32, zAg INV (f_X11_bring TC N σC 0 x0 x1) (f_X12_bring TM N σM 0 x0 x1)) {i : Nat} (hi : i + 6 ≤ L) {x3 : Int32} (e3 : x3 = nI i) (hZ : zLL TC TM D cy adC adM σC σM H locs s) {ls : Array Slot} (hl : lv_has ls 4 [(3, .int x3), (2, .ref (adM 0)), (1, .ref (adC 0)), (0, .ref b)])
    (kk : ∀ (σ1 σ2 : zS) (H : Heap) (locs : List Loc), INV σ1 σ2 → zLL TC TM D cy adC adM σ1 σ2 H locs s → W p l e room_1 s m #[Value.ref b] below meth c H locs 390 5709 (lw_Z below #[Value.ref b] s) (F0 m 1095 ls [])) : W p l e room_1 s m #[Value.ref b] below meth c H locs 390 5709 (lw_Z below #[Value.ref b] s) (F0 m 381 ls []) := by
  obtain ⟨hx, hb, hr, hml, hown, hts0, hX, hbl, hlocks, hgv⟩ := C0
  have hts : ∀ w ∈ WA, w.before #[Value.ref b] s = true := fun w h => hts0 w (wA_tbl w h)
  have S : CallFix p m c code 4 s #[Value.ref b] WA RL := ⟨hx, hb, hml, hown, hts⟩
  have hbA : ¬ zAL s b := Nat.not_le.mpr hbl
  refine lv_aload_n hx hb dL_law_381 rfl (lv_at hl 2 rfl) ?_
  refine lv_aload_n hx hb dL_law_382 rfl (lv_at hl 3 rfl) ?_
  refine lv_iload_n hx hb dL_law_383 rfl (lv_at hl 0 rfl) ?_
  refine lv_iconst (v := nI 1) hx hb dL_law_384 (by decide) ?_
  refine lv_iadd hx hb dL_law_385 ?_
  refine va_sld hx hb hX hbl hbA hZ.1.2.2.2.1 (zL_idx hL e3 (k := 1) (by decide) hi) dL_law_386 ?_
  refine lv_aload_n hx hb dL_law_387 rfl (lv_at hl 3 rfl) ?_
  refine lv_iload_n hx hb dL_law_388 rfl (lv_at hl 0 rfl) ?_
  refine lv_iconst (v := nI 2) hx hb dL_law_389 (by decide) ?_
  refine lv_iadd hx hb dL_law_390 ?_
  refine va_sld hx hb hX hbl hbA hZ.1.2.2.2.1 (zL_idx hL e3 (k := 2) (by decide) hi) dL_law_391 ?_
  have hJ1 : ∀ v0 : Int32, v0 = (if (xs (x3 + nI 2).toNatClampNeg) = 0 then (0 : Int32) else 1) → W p l e room_1 s m #[Value.ref b] below meth c H locs 390 5709 (lw_Z below #[Value.ref b] s) (F0 m 400 ls [.int v0, .int (xs (x3 + nI 1).toNatClampNeg), .ref (adC 0)]) := by
    intro v0 ev0
    obtain ⟨r, σ1, σ2, h1, h2, hI⟩ := hop (xs (x3 + nI 1).toNatClampNeg) v0
    refine zz_lawi S hZ.2.2.1 hZ.1 hZ.2.1 hZ.2.2.2.2 (As := [.int (xs (x3 + nI 1).toNatClampNeg), .int v0]) (b := 0) (c_X11_bring l D cy TC hZ.2.2.1 adC N σC _ 0 (xs (x3 + nI 1).toNatClampNeg) v0 r σ1 h1) (cwV 2 hts (gV (fun _ h => h) wd_905 wd_906 wd_907 wd_102 wd_908) rfl rfl rfl (by decide +kernel) ⟨Nat.le_of_ble_eq_true rfl, Nat.le_of_ble_eq_true rfl⟩) (F := TX11) (NF := 5) 11 rfl (by decide) (k_X11_bring TC N σC 0 (xs (x3 + nI 1).toNatClampNeg) v0 _ h1) rfl hl.1 rfl (Nat.le_of_ble_eq_true rfl) dL_law_400 ⟨Nat.le_of_ble_eq_true rfl, Nat.le_of_ble_eq_true rfl⟩ (fun H locs hB1 hB2 => ?_)
    refine lv_aload_n hx hb dL_law_403 rfl (lv_at hl 1 rfl) ?_
    refine lv_aload_n hx hb dL_law_404 rfl (lv_at hl 3 rfl) ?_
    refine lv_iload_n hx hb dL_law_405 rfl (lv_at hl 0 rfl) ?_
    refine lv_iconst (v := nI 1) hx hb dL_law_406 (by decide) ?_
    refine lv_iadd hx hb dL_law_407 ?_
    refine va_sld hx hb hX hbl hbA hB1.2.2.2.1 (zL_idx hL e3 (k := 1) (by decide) hi) dL_law_408 ?_
    refine lv_aload_n hx hb dL_law_409 rfl (lv_at hl 3 rfl) ?_
    refine lv_iload_n hx hb dL_law_410 rfl (lv_at hl 0 rfl) ?_
    refine lv_iconst (v := nI 2) hx hb dL_law_411 (by decide) ?_
    refine lv_iadd hx hb dL_law_412 ?_
    refine va_sld hx hb hX hbl hbA hB1.2.2.2.1 (zL_idx hL e3 (k := 2) (by decide) hi) dL_law_413 ?_
    have hJ2 : ∀ v1 : Int32, v1 = (if (xs (x3 + nI 2).toNatClampNeg) = 0 then (0 : Int32) else 1) → W p l e room_1 s m #[Value.ref b] below meth c H locs 390 5709 (lw_Z below #[Value.ref b] s) (F0 m 422 ls [.int v1, .int (xs (x3 + nI 1).toNatClampNeg), .ref (adM 0), .int r]) := by
      intro v1 ev1
      obtain rfl : v1 = v0 := ev1.trans ev0.symm
      refine zz_lawi S hZ.2.2.2.1 hB2 hB1 (fun c c' h h' e => hZ.2.2.2.2 c' c h' h e.symm) (As := [.int (xs (x3 + nI 1).toNatClampNeg), .int v1]) (b := 0) (c_X12_bring l D cy TM hZ.2.2.2.1 adM N σM _ 0 (xs (x3 + nI 1).toNatClampNeg) v1 r σ2 h2) (cwV 2 hts (gV (fun _ h => h) wd_909 wd_910 wd_911 wd_572 wd_912) rfl rfl rfl (by decide +kernel) ⟨Nat.le_of_ble_eq_true rfl, Nat.le_of_ble_eq_true rfl⟩) (F := TX12) (NF := 24) 12 rfl (by decide) (k_X12_bring TM N σM 0 (xs (x3 + nI 1).toNatClampNeg) v1 _ h2) rfl hl.1 rfl (Nat.le_of_ble_eq_true rfl) dL_law_422 ⟨Nat.le_of_ble_eq_true rfl, Nat.le_of_ble_eq_true rfl⟩ (fun H locs hB2 hB1 => ?_)
      refine lv_icmp_eq (tgt := 1095) hx hb dL_law_425 (by decide) (fun _ => ?_) (fun h => absurd rfl h)
      exact kk σ1 σ2 H locs hI ⟨hB1, hB2, hZ.2.2⟩
    refine lv_if_eq (tgt := 421) hx hb dL_law_414 (by decide) (fun hc => ?_) (fun hc => ?_)
    · refine lv_iconst (v := 0) hx hb dL_law_421 (by decide) ?_
      exact hJ2 0 (by rw [if_pos hc])
    · refine lv_iconst (v := 1) hx hb dL_law_417 (by decide) ?_
      refine lv_goto (tgt := 422) hx hb dL_law_418 (by decide) ?_
      exact hJ2 1 (by rw [if_neg hc])
  refine lv_if_eq (tgt := 399) hx hb dL_law_392 (by decide) (fun hc => ?_) (fun hc => ?_)
  · refine lv_iconst (v := 0) hx hb dL_law_399 (by decide) ?_
    exact hJ1 0 (by rw [if_pos hc])
  · refine lv_iconst (v := 1) hx hb dL_law_395 (by decide) ?_
    refine lv_goto (tgt := 400) hx hb dL_law_396 (by decide) ?_
    exact hJ1 1 (by rw [if_neg hc])
set_option maxHeartbeats 4000000 in
set_option maxRecDepth 100000 in
theorem law_c6 {p : Program} {l : Launch} {e : Env} {s : State} {m : MethodId} {below : List Frame} {meth : Method} {c : Code} {b L : Nat} {xs : Nat → Int32} (hL : L ≤ 3072) (C0 : lw_At p s m meth c b L xs) {D : va_G} {cy : Nat → ClassId} {adC adM : Nat → Nat} {σC σM : zS} {H : Heap} {locs : List Loc} {TC TM : zT} {INV : zS → zS → Prop} {N : Nat} (hop : ∀ x0 x1 : Int32, zAg INV (f_X11_at TC N σC 0 x0 x1) (f_X12_at TM N σM 0 x0 x1)) {i : Nat} (hi : i + 6 ≤ L) {x3 : Int32} (e3 : x3 = nI i) (hZ : zLL TC TM D cy adC adM σC σM H locs s) {ls : Array Slot} (hl : lv_has ls 4 [(3, .int x3), (2, .ref (adM 0)), (1, .ref (adC 0)), (0, .ref b)])
    (kk : ∀ (σ1 σ2 : zS) (H : Heap) (locs : List Loc), INV σ1 σ2 → zLL TC TM D cy adC adM σ1 σ2 H locs s → W p l e room_1 s m #[Value.ref b] below meth c H locs 390 5709 (lw_Z below #[Value.ref b] s) (F0 m 1095 ls [])) : W p l e room_1 s m #[Value.ref b] below meth c H locs 390 5709 (lw_Z below #[Value.ref b] s) (F0 m 430 ls []) := by
  obtain ⟨hx, hb, hr, hml, hown, hts0, hX, hbl, hlocks, hgv⟩ := C0
  have hts : ∀ w ∈ WA, w.before #[Value.ref b] s = true := fun w h => hts0 w (wA_tbl w h)
  have S : CallFix p m c code 4 s #[Value.ref b] WA RL := ⟨hx, hb, hml, hown, hts⟩
  have hbA : ¬ zAL s b := Nat.not_le.mpr hbl
  refine lv_aload_n hx hb dL_law_430 rfl (lv_at hl 2 rfl) ?_
  refine lv_aload_n hx hb dL_law_431 rfl (lv_at hl 3 rfl) ?_
  refine lv_iload_n hx hb dL_law_432 rfl (lv_at hl 0 rfl) ?_
  refine lv_iconst (v := nI 1) hx hb dL_law_433 (by decide) ?_
  refine lv_iadd hx hb dL_law_434 ?_
  refine va_sld hx hb hX hbl hbA hZ.1.2.2.2.1 (zL_idx hL e3 (k := 1) (by decide) hi) dL_law_435 ?_
  refine lv_aload_n hx hb dL_law_436 rfl (lv_at hl 3 rfl) ?_
  refine lv_iload_n hx hb dL_law_437 rfl (lv_at hl 0 rfl) ?_
  refine lv_iconst (v := nI 2) hx hb dL_law_438 (by decide) ?_
  refine lv_iadd hx hb dL_law_439 ?_
  refine va_sld hx hb hX hbl hbA hZ.1.2.2.2.1 (zL_idx hL e3 (k := 2) (by decide) hi) dL_law_440 ?_
  obtain ⟨r, σ1, σ2, h1, h2, hI⟩ := hop (xs (x3 + nI 1).toNatClampNeg) (xs (x3 + nI 2).toNatClampNeg)
  refine zz_lawi S hZ.2.2.1 hZ.1 hZ.2.1 hZ.2.2.2.2 (As := [.int (xs (x3 + nI 1).toNatClampNeg), .int (xs (x3 + nI 2).toNatClampNeg)]) (b := 0) (c_X11_at l D cy TC hZ.2.2.1 adC N σC _ 0 (xs (x3 + nI 1).toNatClampNeg) (xs (x3 + nI 2).toNatClampNeg) r σ1 h1) (cwV 2 hts (gV (fun _ h => h) wd_913 wd_914 wd_915 wd_102 wd_916) rfl rfl rfl (by decide +kernel) ⟨Nat.le_of_ble_eq_true rfl, Nat.le_of_ble_eq_true rfl⟩) (F := TX11) (NF := 5) 11 rfl (by decide) (k_X11_at TC N σC 0 (xs (x3 + nI 1).toNatClampNeg) (xs (x3 + nI 2).toNatClampNeg) _ h1) rfl hl.1 rfl (Nat.le_of_ble_eq_true rfl) dL_law_441 ⟨Nat.le_of_ble_eq_true rfl, Nat.le_of_ble_eq_true rfl⟩ (fun H locs hB1 hB2 => ?_)
  refine lv_aload_n hx hb dL_law_444 rfl (lv_at hl 1 rfl) ?_
  refine lv_aload_n hx hb dL_law_445 rfl (lv_at hl 3 rfl) ?_
  refine lv_iload_n hx hb dL_law_446 rfl (lv_at hl 0 rfl) ?_
  refine lv_iconst (v := nI 1) hx hb dL_law_447 (by decide) ?_
  refine lv_iadd hx hb dL_law_448 ?_
  refine va_sld hx hb hX hbl hbA hB1.2.2.2.1 (zL_idx hL e3 (k := 1) (by decide) hi) dL_law_449 ?_
  refine lv_aload_n hx hb dL_law_450 rfl (lv_at hl 3 rfl) ?_
  refine lv_iload_n hx hb dL_law_451 rfl (lv_at hl 0 rfl) ?_
  refine lv_iconst (v := nI 2) hx hb dL_law_452 (by decide) ?_
  refine lv_iadd hx hb dL_law_453 ?_
  refine va_sld hx hb hX hbl hbA hB1.2.2.2.1 (zL_idx hL e3 (k := 2) (by decide) hi) dL_law_454 ?_
  refine zz_lawi S hZ.2.2.2.1 hB2 hB1 (fun c c' h h' e => hZ.2.2.2.2 c' c h' h e.symm) (As := [.int (xs (x3 + nI 1).toNatClampNeg), .int (xs (x3 + nI 2).toNatClampNeg)]) (b := 0) (c_X12_at l D cy TM hZ.2.2.2.1 adM N σM _ 0 (xs (x3 + nI 1).toNatClampNeg) (xs (x3 + nI 2).toNatClampNeg) r σ2 h2) (cwV 2 hts (gV (fun _ h => h) wd_917 wd_918 wd_919 wd_572 wd_920) rfl rfl rfl (by decide +kernel) ⟨Nat.le_of_ble_eq_true rfl, Nat.le_of_ble_eq_true rfl⟩) (F := TX12) (NF := 24) 12 rfl (by decide) (k_X12_at TM N σM 0 (xs (x3 + nI 1).toNatClampNeg) (xs (x3 + nI 2).toNatClampNeg) _ h2) rfl hl.1 rfl (Nat.le_of_ble_eq_true rfl) dL_law_455 ⟨Nat.le_of_ble_eq_true rfl, Nat.le_of_ble_eq_true rfl⟩ (fun H locs hB2 hB1 => ?_)
  refine lv_icmp_eq (tgt := 1095) hx hb dL_law_458 (by decide) (fun _ => ?_) (fun h => absurd rfl h)
  exact kk σ1 σ2 H locs hI ⟨hB1, hB2, hZ.2.2⟩
set_option maxHeartbeats 4000000 in
set_option maxRecDepth 100000 in
theorem law_c7 {p : Program} {l : Launch} {e : Env} {s : State} {m : MethodId} {below : List Frame} {meth : Method} {c : Code} {b L : Nat} {xs : Nat → Int32} (hL : L ≤ 3072) (C0 : lw_At p s m meth c b L xs) {D : va_G} {cy : Nat → ClassId} {adC adM : Nat → Nat} {σC σM : zS} {H : Heap} {locs : List Loc} {TC TM : zT} {INV : zS → zS → Prop} {N : Nat} (hop : ∀ x0 x1 x2 x3 x4 : Int32, zAg INV (f_X11_connect TC N σC 0 x0 x1 x2 x3 x4) (f_X12_connect TM N σM 0 x0 x1 x2 x3 x4)) {i : Nat} (hi : i + 6 ≤ L) {x3 : Int32} (e3 : x3 = nI i) (hZ : zLL TC TM D cy adC adM σC σM H locs s) {ls : Array Slot} (hl : lv_has ls 4 [(3, .int x3), (2, .ref (adM 0)), (1, .ref (adC 0)), (0, .ref b)])
    (kk : ∀ (σ1 σ2 : zS) (H : Heap) (locs : List Loc), INV σ1 σ2 → zLL TC TM D cy adC adM σ1 σ2 H locs s → W p l e room_1 s m #[Value.ref b] below meth c H locs 390 5709 (lw_Z below #[Value.ref b] s) (F0 m 1095 ls [])) : W p l e room_1 s m #[Value.ref b] below meth c H locs 390 5709 (lw_Z below #[Value.ref b] s) (F0 m 463 ls []) := by
  obtain ⟨hx, hb, hr, hml, hown, hts0, hX, hbl, hlocks, hgv⟩ := C0
  have hts : ∀ w ∈ WA, w.before #[Value.ref b] s = true := fun w h => hts0 w (wA_tbl w h)
  have S : CallFix p m c code 4 s #[Value.ref b] WA RL := ⟨hx, hb, hml, hown, hts⟩
  have hbA : ¬ zAL s b := Nat.not_le.mpr hbl
  refine lv_aload_n hx hb dL_law_463 rfl (lv_at hl 2 rfl) ?_
  refine lv_aload_n hx hb dL_law_464 rfl (lv_at hl 3 rfl) ?_
  refine lv_iload_n hx hb dL_law_465 rfl (lv_at hl 0 rfl) ?_
  refine lv_iconst (v := nI 1) hx hb dL_law_466 (by decide) ?_
  refine lv_iadd hx hb dL_law_467 ?_
  refine va_sld hx hb hX hbl hbA hZ.1.2.2.2.1 (zL_idx hL e3 (k := 1) (by decide) hi) dL_law_468 ?_
  refine lv_aload_n hx hb dL_law_469 rfl (lv_at hl 3 rfl) ?_
  refine lv_iload_n hx hb dL_law_470 rfl (lv_at hl 0 rfl) ?_
  refine lv_iconst (v := nI 2) hx hb dL_law_471 (by decide) ?_
  refine lv_iadd hx hb dL_law_472 ?_
  refine va_sld hx hb hX hbl hbA hZ.1.2.2.2.1 (zL_idx hL e3 (k := 2) (by decide) hi) dL_law_473 ?_
  refine lv_aload_n hx hb dL_law_474 rfl (lv_at hl 3 rfl) ?_
  refine lv_iload_n hx hb dL_law_475 rfl (lv_at hl 0 rfl) ?_
  refine lv_iconst (v := nI 3) hx hb dL_law_476 (by decide) ?_
  refine lv_iadd hx hb dL_law_477 ?_
  refine va_sld hx hb hX hbl hbA hZ.1.2.2.2.1 (zL_idx hL e3 (k := 3) (by decide) hi) dL_law_478 ?_
  refine lv_aload_n hx hb dL_law_479 rfl (lv_at hl 3 rfl) ?_
  refine lv_iload_n hx hb dL_law_480 rfl (lv_at hl 0 rfl) ?_
  refine lv_iconst (v := nI 4) hx hb dL_law_481 (by decide) ?_
  refine lv_iadd hx hb dL_law_482 ?_
  refine va_sld hx hb hX hbl hbA hZ.1.2.2.2.1 (zL_idx hL e3 (k := 4) (by decide) hi) dL_law_483 ?_
  refine lv_aload_n hx hb dL_law_484 rfl (lv_at hl 3 rfl) ?_
  refine lv_iload_n hx hb dL_law_485 rfl (lv_at hl 0 rfl) ?_
  refine lv_iconst (v := nI 5) hx hb dL_law_486 (by decide) ?_
  refine lv_iadd hx hb dL_law_487 ?_
  refine va_sld hx hb hX hbl hbA hZ.1.2.2.2.1 (zL_idx hL e3 (k := 5) (by decide) hi) dL_law_488 ?_
  obtain ⟨r, σ1, σ2, h1, h2, hI⟩ := hop (xs (x3 + nI 1).toNatClampNeg) (xs (x3 + nI 2).toNatClampNeg) (xs (x3 + nI 3).toNatClampNeg) (xs (x3 + nI 4).toNatClampNeg) (xs (x3 + nI 5).toNatClampNeg)
  refine zz_lawi S hZ.2.2.1 hZ.1 hZ.2.1 hZ.2.2.2.2 (As := [.int (xs (x3 + nI 1).toNatClampNeg), .int (xs (x3 + nI 2).toNatClampNeg), .int (xs (x3 + nI 3).toNatClampNeg), .int (xs (x3 + nI 4).toNatClampNeg), .int (xs (x3 + nI 5).toNatClampNeg)]) (b := 0) (c_X11_connect l D cy TC hZ.2.2.1 adC N σC _ 0 (xs (x3 + nI 1).toNatClampNeg) (xs (x3 + nI 2).toNatClampNeg) (xs (x3 + nI 3).toNatClampNeg) (xs (x3 + nI 4).toNatClampNeg) (xs (x3 + nI 5).toNatClampNeg) r σ1 h1) (cwV 5 hts (gV (fun _ h => h) wd_921 wd_922 wd_923 wd_102 wd_924) rfl rfl rfl (by decide +kernel) ⟨Nat.le_of_ble_eq_true rfl, Nat.le_of_ble_eq_true rfl⟩) (F := TX11) (NF := 5) 11 rfl (by decide) (k_X11_connect TC N σC 0 (xs (x3 + nI 1).toNatClampNeg) (xs (x3 + nI 2).toNatClampNeg) (xs (x3 + nI 3).toNatClampNeg) (xs (x3 + nI 4).toNatClampNeg) (xs (x3 + nI 5).toNatClampNeg) _ h1) rfl hl.1 rfl (Nat.le_of_ble_eq_true rfl) dL_law_489 ⟨Nat.le_of_ble_eq_true rfl, Nat.le_of_ble_eq_true rfl⟩ (fun H locs hB1 hB2 => ?_)
  refine lv_aload_n hx hb dL_law_492 rfl (lv_at hl 1 rfl) ?_
  refine lv_aload_n hx hb dL_law_493 rfl (lv_at hl 3 rfl) ?_
  refine lv_iload_n hx hb dL_law_494 rfl (lv_at hl 0 rfl) ?_
  refine lv_iconst (v := nI 1) hx hb dL_law_495 (by decide) ?_
  refine lv_iadd hx hb dL_law_496 ?_
  refine va_sld hx hb hX hbl hbA hB1.2.2.2.1 (zL_idx hL e3 (k := 1) (by decide) hi) dL_law_497 ?_
  refine lv_aload_n hx hb dL_law_498 rfl (lv_at hl 3 rfl) ?_
  refine lv_iload_n hx hb dL_law_499 rfl (lv_at hl 0 rfl) ?_
  refine lv_iconst (v := nI 2) hx hb dL_law_500 (by decide) ?_
  refine lv_iadd hx hb dL_law_501 ?_
  refine va_sld hx hb hX hbl hbA hB1.2.2.2.1 (zL_idx hL e3 (k := 2) (by decide) hi) dL_law_502 ?_
  refine lv_aload_n hx hb dL_law_503 rfl (lv_at hl 3 rfl) ?_
  refine lv_iload_n hx hb dL_law_504 rfl (lv_at hl 0 rfl) ?_
  refine lv_iconst (v := nI 3) hx hb dL_law_505 (by decide) ?_
  refine lv_iadd hx hb dL_law_506 ?_
  refine va_sld hx hb hX hbl hbA hB1.2.2.2.1 (zL_idx hL e3 (k := 3) (by decide) hi) dL_law_507 ?_
  refine lv_aload_n hx hb dL_law_508 rfl (lv_at hl 3 rfl) ?_
  refine lv_iload_n hx hb dL_law_509 rfl (lv_at hl 0 rfl) ?_
  refine lv_iconst (v := nI 4) hx hb dL_law_510 (by decide) ?_
  refine lv_iadd hx hb dL_law_511 ?_
  refine va_sld hx hb hX hbl hbA hB1.2.2.2.1 (zL_idx hL e3 (k := 4) (by decide) hi) dL_law_512 ?_
  refine lv_aload_n hx hb dL_law_513 rfl (lv_at hl 3 rfl) ?_
  refine lv_iload_n hx hb dL_law_514 rfl (lv_at hl 0 rfl) ?_
  refine lv_iconst (v := nI 5) hx hb dL_law_515 (by decide) ?_
  refine lv_iadd hx hb dL_law_516 ?_
  refine va_sld hx hb hX hbl hbA hB1.2.2.2.1 (zL_idx hL e3 (k := 5) (by decide) hi) dL_law_517 ?_
  refine zz_lawi S hZ.2.2.2.1 hB2 hB1 (fun c c' h h' e => hZ.2.2.2.2 c' c h' h e.symm) (As := [.int (xs (x3 + nI 1).toNatClampNeg), .int (xs (x3 + nI 2).toNatClampNeg), .int (xs (x3 + nI 3).toNatClampNeg), .int (xs (x3 + nI 4).toNatClampNeg), .int (xs (x3 + nI 5).toNatClampNeg)]) (b := 0) (c_X12_connect l D cy TM hZ.2.2.2.1 adM N σM _ 0 (xs (x3 + nI 1).toNatClampNeg) (xs (x3 + nI 2).toNatClampNeg) (xs (x3 + nI 3).toNatClampNeg) (xs (x3 + nI 4).toNatClampNeg) (xs (x3 + nI 5).toNatClampNeg) r σ2 h2) (cwV 5 hts (gV (fun _ h => h) wd_925 wd_926 wd_927 wd_572 wd_928) rfl rfl rfl (by decide +kernel) ⟨Nat.le_of_ble_eq_true rfl, Nat.le_of_ble_eq_true rfl⟩) (F := TX12) (NF := 24) 12 rfl (by decide) (k_X12_connect TM N σM 0 (xs (x3 + nI 1).toNatClampNeg) (xs (x3 + nI 2).toNatClampNeg) (xs (x3 + nI 3).toNatClampNeg) (xs (x3 + nI 4).toNatClampNeg) (xs (x3 + nI 5).toNatClampNeg) _ h2) rfl hl.1 rfl (Nat.le_of_ble_eq_true rfl) dL_law_518 ⟨Nat.le_of_ble_eq_true rfl, Nat.le_of_ble_eq_true rfl⟩ (fun H locs hB2 hB1 => ?_)
  refine lv_icmp_eq (tgt := 1095) hx hb dL_law_521 (by decide) (fun _ => ?_) (fun h => absurd rfl h)
  exact kk σ1 σ2 H locs hI ⟨hB1, hB2, hZ.2.2⟩
set_option maxHeartbeats 4000000 in
set_option maxRecDepth 100000 in
theorem law_c8 {p : Program} {l : Launch} {e : Env} {s : State} {m : MethodId} {below : List Frame} {meth : Method} {c : Code} {b L : Nat} {xs : Nat → Int32} (hL : L ≤ 3072) (C0 : lw_At p s m meth c b L xs) {D : va_G} {cy : Nat → ClassId} {adC adM : Nat → Nat} {σC σM : zS} {H : Heap} {locs : List Loc} {TC TM : zT} {INV : zS → zS → Prop} {N : Nat} (hop : ∀ x0 : Int32, zAg INV (f_X11_disconnect TC N σC 0 x0) (f_X12_disconnect TM N σM 0 x0)) {i : Nat} (hi : i + 6 ≤ L) {x3 : Int32} (e3 : x3 = nI i) (hZ : zLL TC TM D cy adC adM σC σM H locs s) {ls : Array Slot} (hl : lv_has ls 4 [(3, .int x3), (2, .ref (adM 0)), (1, .ref (adC 0)), (0, .ref b)])
    (kk : ∀ (σ1 σ2 : zS) (H : Heap) (locs : List Loc), INV σ1 σ2 → zLL TC TM D cy adC adM σ1 σ2 H locs s → W p l e room_1 s m #[Value.ref b] below meth c H locs 390 5709 (lw_Z below #[Value.ref b] s) (F0 m 1095 ls [])) : W p l e room_1 s m #[Value.ref b] below meth c H locs 390 5709 (lw_Z below #[Value.ref b] s) (F0 m 526 ls []) := by
  obtain ⟨hx, hb, hr, hml, hown, hts0, hX, hbl, hlocks, hgv⟩ := C0
  have hts : ∀ w ∈ WA, w.before #[Value.ref b] s = true := fun w h => hts0 w (wA_tbl w h)
  have S : CallFix p m c code 4 s #[Value.ref b] WA RL := ⟨hx, hb, hml, hown, hts⟩
  have hbA : ¬ zAL s b := Nat.not_le.mpr hbl
  refine lv_aload_n hx hb dL_law_526 rfl (lv_at hl 2 rfl) ?_
  refine lv_aload_n hx hb dL_law_527 rfl (lv_at hl 3 rfl) ?_
  refine lv_iload_n hx hb dL_law_528 rfl (lv_at hl 0 rfl) ?_
  refine lv_iconst (v := nI 1) hx hb dL_law_529 (by decide) ?_
  refine lv_iadd hx hb dL_law_530 ?_
  refine va_sld hx hb hX hbl hbA hZ.1.2.2.2.1 (zL_idx hL e3 (k := 1) (by decide) hi) dL_law_531 ?_
  obtain ⟨r, σ1, σ2, h1, h2, hI⟩ := hop (xs (x3 + nI 1).toNatClampNeg)
  refine zz_lawi S hZ.2.2.1 hZ.1 hZ.2.1 hZ.2.2.2.2 (As := [.int (xs (x3 + nI 1).toNatClampNeg)]) (b := 0) (c_X11_disconnect l D cy TC hZ.2.2.1 adC N σC _ 0 (xs (x3 + nI 1).toNatClampNeg) r σ1 h1) (cwV 1 hts (gV (fun _ h => h) wd_929 wd_930 wd_931 wd_102 wd_932) rfl rfl rfl (by decide +kernel) ⟨Nat.le_of_ble_eq_true rfl, Nat.le_of_ble_eq_true rfl⟩) (F := TX11) (NF := 5) 11 rfl (by decide) (k_X11_disconnect TC N σC 0 (xs (x3 + nI 1).toNatClampNeg) _ h1) rfl hl.1 rfl (Nat.le_of_ble_eq_true rfl) dL_law_532 ⟨Nat.le_of_ble_eq_true rfl, Nat.le_of_ble_eq_true rfl⟩ (fun H locs hB1 hB2 => ?_)
  refine lv_aload_n hx hb dL_law_535 rfl (lv_at hl 1 rfl) ?_
  refine lv_aload_n hx hb dL_law_536 rfl (lv_at hl 3 rfl) ?_
  refine lv_iload_n hx hb dL_law_537 rfl (lv_at hl 0 rfl) ?_
  refine lv_iconst (v := nI 1) hx hb dL_law_538 (by decide) ?_
  refine lv_iadd hx hb dL_law_539 ?_
  refine va_sld hx hb hX hbl hbA hB1.2.2.2.1 (zL_idx hL e3 (k := 1) (by decide) hi) dL_law_540 ?_
  refine zz_lawi S hZ.2.2.2.1 hB2 hB1 (fun c c' h h' e => hZ.2.2.2.2 c' c h' h e.symm) (As := [.int (xs (x3 + nI 1).toNatClampNeg)]) (b := 0) (c_X12_disconnect l D cy TM hZ.2.2.2.1 adM N σM _ 0 (xs (x3 + nI 1).toNatClampNeg) r σ2 h2) (cwV 1 hts (gV (fun _ h => h) wd_933 wd_934 wd_935 wd_572 wd_936) rfl rfl rfl (by decide +kernel) ⟨Nat.le_of_ble_eq_true rfl, Nat.le_of_ble_eq_true rfl⟩) (F := TX12) (NF := 24) 12 rfl (by decide) (k_X12_disconnect TM N σM 0 (xs (x3 + nI 1).toNatClampNeg) _ h2) rfl hl.1 rfl (Nat.le_of_ble_eq_true rfl) dL_law_541 ⟨Nat.le_of_ble_eq_true rfl, Nat.le_of_ble_eq_true rfl⟩ (fun H locs hB2 hB1 => ?_)
  refine lv_icmp_eq (tgt := 1095) hx hb dL_law_544 (by decide) (fun _ => ?_) (fun h => absurd rfl h)
  exact kk σ1 σ2 H locs hI ⟨hB1, hB2, hZ.2.2⟩
set_option maxHeartbeats 4000000 in
set_option maxRecDepth 100000 in
theorem law_c9 {p : Program} {l : Launch} {e : Env} {s : State} {m : MethodId} {below : List Frame} {meth : Method} {c : Code} {b L : Nat} {xs : Nat → Int32} (hL : L ≤ 3072) (C0 : lw_At p s m meth c b L xs) {D : va_G} {cy : Nat → ClassId} {adC adM : Nat → Nat} {σC σM : zS} {H : Heap} {locs : List Loc} {TC TM : zT} {INV : zS → zS → Prop} {N : Nat} (hop : zAg INV (f_X11_connectors TC N σC 0) (f_X12_connectors TM N σM 0)) {i : Nat} (hi : i + 6 ≤ L) {x3 : Int32} (e3 : x3 = nI i) (hZ : zLL TC TM D cy adC adM σC σM H locs s) {ls : Array Slot} (hl : lv_has ls 4 [(3, .int x3), (2, .ref (adM 0)), (1, .ref (adC 0)), (0, .ref b)])
    (kk : ∀ (σ1 σ2 : zS) (H : Heap) (locs : List Loc), INV σ1 σ2 → zLL TC TM D cy adC adM σ1 σ2 H locs s → W p l e room_1 s m #[Value.ref b] below meth c H locs 390 5709 (lw_Z below #[Value.ref b] s) (F0 m 1095 ls [])) : W p l e room_1 s m #[Value.ref b] below meth c H locs 390 5709 (lw_Z below #[Value.ref b] s) (F0 m 549 ls []) := by
  obtain ⟨hx, hb, hr, hml, hown, hts0, hX, hbl, hlocks, hgv⟩ := C0
  have hts : ∀ w ∈ WA, w.before #[Value.ref b] s = true := fun w h => hts0 w (wA_tbl w h)
  have S : CallFix p m c code 4 s #[Value.ref b] WA RL := ⟨hx, hb, hml, hown, hts⟩
  have hbA : ¬ zAL s b := Nat.not_le.mpr hbl
  refine lv_aload_n hx hb dL_law_549 rfl (lv_at hl 2 rfl) ?_
  obtain ⟨r, σ1, σ2, h1, h2, hI⟩ := hop 
  refine zz_lawi S hZ.2.2.1 hZ.1 hZ.2.1 hZ.2.2.2.2 (As := []) (b := 0) (c_X11_connectors l D cy TC hZ.2.2.1 adC N σC _ 0  r σ1 h1) (cwV 0 hts (gV (fun _ h => h) wd_937 wd_938 wd_939 wd_102 wd_940) rfl rfl rfl (by decide +kernel) ⟨Nat.le_of_ble_eq_true rfl, Nat.le_of_ble_eq_true rfl⟩) (F := TX11) (NF := 5) 11 rfl (by decide) (k_X11_connectors TC N σC 0  _ h1) rfl hl.1 rfl (Nat.le_of_ble_eq_true rfl) dL_law_550 ⟨Nat.le_of_ble_eq_true rfl, Nat.le_of_ble_eq_true rfl⟩ (fun H locs hB1 hB2 => ?_)
  refine lv_aload_n hx hb dL_law_553 rfl (lv_at hl 1 rfl) ?_
  refine zz_lawi S hZ.2.2.2.1 hB2 hB1 (fun c c' h h' e => hZ.2.2.2.2 c' c h' h e.symm) (As := []) (b := 0) (c_X12_connectors l D cy TM hZ.2.2.2.1 adM N σM _ 0  r σ2 h2) (cwV 0 hts (gV (fun _ h => h) wd_941 wd_942 wd_943 wd_572 wd_944) rfl rfl rfl (by decide +kernel) ⟨Nat.le_of_ble_eq_true rfl, Nat.le_of_ble_eq_true rfl⟩) (F := TX12) (NF := 24) 12 rfl (by decide) (k_X12_connectors TM N σM 0  _ h2) rfl hl.1 rfl (Nat.le_of_ble_eq_true rfl) dL_law_554 ⟨Nat.le_of_ble_eq_true rfl, Nat.le_of_ble_eq_true rfl⟩ (fun H locs hB2 hB1 => ?_)
  refine lv_icmp_eq (tgt := 1095) hx hb dL_law_557 (by decide) (fun _ => ?_) (fun h => absurd rfl h)
  exact kk σ1 σ2 H locs hI ⟨hB1, hB2, hZ.2.2⟩
set_option maxHeartbeats 4000000 in
set_option maxRecDepth 100000 in
theorem law_c10 {p : Program} {l : Launch} {e : Env} {s : State} {m : MethodId} {below : List Frame} {meth : Method} {c : Code} {b L : Nat} {xs : Nat → Int32} (hL : L ≤ 3072) (C0 : lw_At p s m meth c b L xs) {D : va_G} {cy : Nat → ClassId} {adC adM : Nat → Nat} {σC σM : zS} {H : Heap} {locs : List Loc} {TC TM : zT} {INV : zS → zS → Prop} {N : Nat} (hop : ∀ x0 x1 x2 : Int32, zAg INV (f_X11_point TC N σC 0 x0 x1 x2) (f_X12_point TM N σM 0 x0 x1 x2)) {i : Nat} (hi : i + 6 ≤ L) {x3 : Int32} (e3 : x3 = nI i) (hZ : zLL TC TM D cy adC adM σC σM H locs s) {ls : Array Slot} (hl : lv_has ls 4 [(3, .int x3), (2, .ref (adM 0)), (1, .ref (adC 0)), (0, .ref b)])
    (kk : ∀ (σ1 σ2 : zS) (H : Heap) (locs : List Loc), INV σ1 σ2 → zLL TC TM D cy adC adM σ1 σ2 H locs s → W p l e room_1 s m #[Value.ref b] below meth c H locs 390 5709 (lw_Z below #[Value.ref b] s) (F0 m 1095 ls [])) : W p l e room_1 s m #[Value.ref b] below meth c H locs 390 5709 (lw_Z below #[Value.ref b] s) (F0 m 562 ls []) := by
  obtain ⟨hx, hb, hr, hml, hown, hts0, hX, hbl, hlocks, hgv⟩ := C0
  have hts : ∀ w ∈ WA, w.before #[Value.ref b] s = true := fun w h => hts0 w (wA_tbl w h)
  have S : CallFix p m c code 4 s #[Value.ref b] WA RL := ⟨hx, hb, hml, hown, hts⟩
  have hbA : ¬ zAL s b := Nat.not_le.mpr hbl
  refine lv_aload_n hx hb dL_law_562 rfl (lv_at hl 2 rfl) ?_
  refine lv_aload_n hx hb dL_law_563 rfl (lv_at hl 3 rfl) ?_
  refine lv_iload_n hx hb dL_law_564 rfl (lv_at hl 0 rfl) ?_
  refine lv_iconst (v := nI 1) hx hb dL_law_565 (by decide) ?_
  refine lv_iadd hx hb dL_law_566 ?_
  refine va_sld hx hb hX hbl hbA hZ.1.2.2.2.1 (zL_idx hL e3 (k := 1) (by decide) hi) dL_law_567 ?_
  refine lv_aload_n hx hb dL_law_568 rfl (lv_at hl 3 rfl) ?_
  refine lv_iload_n hx hb dL_law_569 rfl (lv_at hl 0 rfl) ?_
  refine lv_iconst (v := nI 2) hx hb dL_law_570 (by decide) ?_
  refine lv_iadd hx hb dL_law_571 ?_
  refine va_sld hx hb hX hbl hbA hZ.1.2.2.2.1 (zL_idx hL e3 (k := 2) (by decide) hi) dL_law_572 ?_
  refine lv_aload_n hx hb dL_law_573 rfl (lv_at hl 3 rfl) ?_
  refine lv_iload_n hx hb dL_law_574 rfl (lv_at hl 0 rfl) ?_
  refine lv_iconst (v := nI 3) hx hb dL_law_575 (by decide) ?_
  refine lv_iadd hx hb dL_law_576 ?_
  refine va_sld hx hb hX hbl hbA hZ.1.2.2.2.1 (zL_idx hL e3 (k := 3) (by decide) hi) dL_law_577 ?_
  obtain ⟨r, σ1, σ2, h1, h2, hI⟩ := hop (xs (x3 + nI 1).toNatClampNeg) (xs (x3 + nI 2).toNatClampNeg) (xs (x3 + nI 3).toNatClampNeg)
  refine zz_lawi S hZ.2.2.1 hZ.1 hZ.2.1 hZ.2.2.2.2 (As := [.int (xs (x3 + nI 1).toNatClampNeg), .int (xs (x3 + nI 2).toNatClampNeg), .int (xs (x3 + nI 3).toNatClampNeg)]) (b := 0) (c_X11_point l D cy TC hZ.2.2.1 adC N σC _ 0 (xs (x3 + nI 1).toNatClampNeg) (xs (x3 + nI 2).toNatClampNeg) (xs (x3 + nI 3).toNatClampNeg) r σ1 h1) (cwV 3 hts (gV (fun _ h => h) wd_945 wd_946 wd_947 wd_102 wd_948) rfl rfl rfl (by decide +kernel) ⟨Nat.le_of_ble_eq_true rfl, Nat.le_of_ble_eq_true rfl⟩) (F := TX11) (NF := 5) 11 rfl (by decide) (k_X11_point TC N σC 0 (xs (x3 + nI 1).toNatClampNeg) (xs (x3 + nI 2).toNatClampNeg) (xs (x3 + nI 3).toNatClampNeg) _ h1) rfl hl.1 rfl (Nat.le_of_ble_eq_true rfl) dL_law_578 ⟨Nat.le_of_ble_eq_true rfl, Nat.le_of_ble_eq_true rfl⟩ (fun H locs hB1 hB2 => ?_)
  refine lv_aload_n hx hb dL_law_581 rfl (lv_at hl 1 rfl) ?_
  refine lv_aload_n hx hb dL_law_582 rfl (lv_at hl 3 rfl) ?_
  refine lv_iload_n hx hb dL_law_583 rfl (lv_at hl 0 rfl) ?_
  refine lv_iconst (v := nI 1) hx hb dL_law_584 (by decide) ?_
  refine lv_iadd hx hb dL_law_585 ?_
  refine va_sld hx hb hX hbl hbA hB1.2.2.2.1 (zL_idx hL e3 (k := 1) (by decide) hi) dL_law_586 ?_
  refine lv_aload_n hx hb dL_law_587 rfl (lv_at hl 3 rfl) ?_
  refine lv_iload_n hx hb dL_law_588 rfl (lv_at hl 0 rfl) ?_
  refine lv_iconst (v := nI 2) hx hb dL_law_589 (by decide) ?_
  refine lv_iadd hx hb dL_law_590 ?_
  refine va_sld hx hb hX hbl hbA hB1.2.2.2.1 (zL_idx hL e3 (k := 2) (by decide) hi) dL_law_591 ?_
  refine lv_aload_n hx hb dL_law_592 rfl (lv_at hl 3 rfl) ?_
  refine lv_iload_n hx hb dL_law_593 rfl (lv_at hl 0 rfl) ?_
  refine lv_iconst (v := nI 3) hx hb dL_law_594 (by decide) ?_
  refine lv_iadd hx hb dL_law_595 ?_
  refine va_sld hx hb hX hbl hbA hB1.2.2.2.1 (zL_idx hL e3 (k := 3) (by decide) hi) dL_law_596 ?_
  refine zz_lawi S hZ.2.2.2.1 hB2 hB1 (fun c c' h h' e => hZ.2.2.2.2 c' c h' h e.symm) (As := [.int (xs (x3 + nI 1).toNatClampNeg), .int (xs (x3 + nI 2).toNatClampNeg), .int (xs (x3 + nI 3).toNatClampNeg)]) (b := 0) (c_X12_point l D cy TM hZ.2.2.2.1 adM N σM _ 0 (xs (x3 + nI 1).toNatClampNeg) (xs (x3 + nI 2).toNatClampNeg) (xs (x3 + nI 3).toNatClampNeg) r σ2 h2) (cwV 3 hts (gV (fun _ h => h) wd_949 wd_950 wd_951 wd_572 wd_952) rfl rfl rfl (by decide +kernel) ⟨Nat.le_of_ble_eq_true rfl, Nat.le_of_ble_eq_true rfl⟩) (F := TX12) (NF := 24) 12 rfl (by decide) (k_X12_point TM N σM 0 (xs (x3 + nI 1).toNatClampNeg) (xs (x3 + nI 2).toNatClampNeg) (xs (x3 + nI 3).toNatClampNeg) _ h2) rfl hl.1 rfl (Nat.le_of_ble_eq_true rfl) dL_law_597 ⟨Nat.le_of_ble_eq_true rfl, Nat.le_of_ble_eq_true rfl⟩ (fun H locs hB2 hB1 => ?_)
  refine lv_icmp_eq (tgt := 1095) hx hb dL_law_600 (by decide) (fun _ => ?_) (fun h => absurd rfl h)
  exact kk σ1 σ2 H locs hI ⟨hB1, hB2, hZ.2.2⟩
set_option maxHeartbeats 4000000 in
set_option maxRecDepth 100000 in
theorem law_c11 {p : Program} {l : Launch} {e : Env} {s : State} {m : MethodId} {below : List Frame} {meth : Method} {c : Code} {b L : Nat} {xs : Nat → Int32} (hL : L ≤ 3072) (C0 : lw_At p s m meth c b L xs) {D : va_G} {cy : Nat → ClassId} {adC adM : Nat → Nat} {σC σM : zS} {H : Heap} {locs : List Loc} {TC TM : zT} {INV : zS → zS → Prop} {N : Nat} (hop : ∀ x0 : Int32, zAg INV (f_X11_length TC N σC 0 x0) (f_X12_length TM N σM 0 x0)) {i : Nat} (hi : i + 6 ≤ L) {x3 : Int32} (e3 : x3 = nI i) (hZ : zLL TC TM D cy adC adM σC σM H locs s) {ls : Array Slot} (hl : lv_has ls 4 [(3, .int x3), (2, .ref (adM 0)), (1, .ref (adC 0)), (0, .ref b)])
    (kk : ∀ (σ1 σ2 : zS) (H : Heap) (locs : List Loc), INV σ1 σ2 → zLL TC TM D cy adC adM σ1 σ2 H locs s → W p l e room_1 s m #[Value.ref b] below meth c H locs 390 5709 (lw_Z below #[Value.ref b] s) (F0 m 1095 ls [])) : W p l e room_1 s m #[Value.ref b] below meth c H locs 390 5709 (lw_Z below #[Value.ref b] s) (F0 m 605 ls []) := by
  obtain ⟨hx, hb, hr, hml, hown, hts0, hX, hbl, hlocks, hgv⟩ := C0
  have hts : ∀ w ∈ WA, w.before #[Value.ref b] s = true := fun w h => hts0 w (wA_tbl w h)
  have S : CallFix p m c code 4 s #[Value.ref b] WA RL := ⟨hx, hb, hml, hown, hts⟩
  have hbA : ¬ zAL s b := Nat.not_le.mpr hbl
  refine lv_aload_n hx hb dL_law_605 rfl (lv_at hl 2 rfl) ?_
  refine lv_aload_n hx hb dL_law_606 rfl (lv_at hl 3 rfl) ?_
  refine lv_iload_n hx hb dL_law_607 rfl (lv_at hl 0 rfl) ?_
  refine lv_iconst (v := nI 1) hx hb dL_law_608 (by decide) ?_
  refine lv_iadd hx hb dL_law_609 ?_
  refine va_sld hx hb hX hbl hbA hZ.1.2.2.2.1 (zL_idx hL e3 (k := 1) (by decide) hi) dL_law_610 ?_
  obtain ⟨r, σ1, σ2, h1, h2, hI⟩ := hop (xs (x3 + nI 1).toNatClampNeg)
  refine zz_lawi S hZ.2.2.1 hZ.1 hZ.2.1 hZ.2.2.2.2 (As := [.int (xs (x3 + nI 1).toNatClampNeg)]) (b := 0) (c_X11_length l D cy TC hZ.2.2.1 adC N σC _ 0 (xs (x3 + nI 1).toNatClampNeg) r σ1 h1) (cwV 1 hts (gV (fun _ h => h) wd_953 wd_954 wd_955 wd_102 wd_956) rfl rfl rfl (by decide +kernel) ⟨Nat.le_of_ble_eq_true rfl, Nat.le_of_ble_eq_true rfl⟩) (F := TX11) (NF := 5) 11 rfl (by decide) (k_X11_length TC N σC 0 (xs (x3 + nI 1).toNatClampNeg) _ h1) rfl hl.1 rfl (Nat.le_of_ble_eq_true rfl) dL_law_611 ⟨Nat.le_of_ble_eq_true rfl, Nat.le_of_ble_eq_true rfl⟩ (fun H locs hB1 hB2 => ?_)
  refine lv_aload_n hx hb dL_law_614 rfl (lv_at hl 1 rfl) ?_
  refine lv_aload_n hx hb dL_law_615 rfl (lv_at hl 3 rfl) ?_
  refine lv_iload_n hx hb dL_law_616 rfl (lv_at hl 0 rfl) ?_
  refine lv_iconst (v := nI 1) hx hb dL_law_617 (by decide) ?_
  refine lv_iadd hx hb dL_law_618 ?_
  refine va_sld hx hb hX hbl hbA hB1.2.2.2.1 (zL_idx hL e3 (k := 1) (by decide) hi) dL_law_619 ?_
  refine zz_lawi S hZ.2.2.2.1 hB2 hB1 (fun c c' h h' e => hZ.2.2.2.2 c' c h' h e.symm) (As := [.int (xs (x3 + nI 1).toNatClampNeg)]) (b := 0) (c_X12_length l D cy TM hZ.2.2.2.1 adM N σM _ 0 (xs (x3 + nI 1).toNatClampNeg) r σ2 h2) (cwV 1 hts (gV (fun _ h => h) wd_957 wd_958 wd_959 wd_572 wd_960) rfl rfl rfl (by decide +kernel) ⟨Nat.le_of_ble_eq_true rfl, Nat.le_of_ble_eq_true rfl⟩) (F := TX12) (NF := 24) 12 rfl (by decide) (k_X12_length TM N σM 0 (xs (x3 + nI 1).toNatClampNeg) _ h2) rfl hl.1 rfl (Nat.le_of_ble_eq_true rfl) dL_law_620 ⟨Nat.le_of_ble_eq_true rfl, Nat.le_of_ble_eq_true rfl⟩ (fun H locs hB2 hB1 => ?_)
  refine lv_icmp_eq (tgt := 1095) hx hb dL_law_623 (by decide) (fun _ => ?_) (fun h => absurd rfl h)
  exact kk σ1 σ2 H locs hI ⟨hB1, hB2, hZ.2.2⟩
set_option maxHeartbeats 4000000 in
set_option maxRecDepth 100000 in
theorem law_c12 {p : Program} {l : Launch} {e : Env} {s : State} {m : MethodId} {below : List Frame} {meth : Method} {c : Code} {b L : Nat} {xs : Nat → Int32} (hL : L ≤ 3072) (C0 : lw_At p s m meth c b L xs) {D : va_G} {cy : Nat → ClassId} {adC adM : Nat → Nat} {σC σM : zS} {H : Heap} {locs : List Loc} {TC TM : zT} {INV : zS → zS → Prop} {N : Nat} (hop : ∀ x0 : Int32, zAg INV (f_X11_through TC N σC 0 x0) (f_X12_through TM N σM 0 x0)) {i : Nat} (hi : i + 6 ≤ L) {x3 : Int32} (e3 : x3 = nI i) (hZ : zLL TC TM D cy adC adM σC σM H locs s) {ls : Array Slot} (hl : lv_has ls 4 [(3, .int x3), (2, .ref (adM 0)), (1, .ref (adC 0)), (0, .ref b)])
    (kk : ∀ (σ1 σ2 : zS) (H : Heap) (locs : List Loc), INV σ1 σ2 → zLL TC TM D cy adC adM σ1 σ2 H locs s → W p l e room_1 s m #[Value.ref b] below meth c H locs 390 5709 (lw_Z below #[Value.ref b] s) (F0 m 1095 ls [])) : W p l e room_1 s m #[Value.ref b] below meth c H locs 390 5709 (lw_Z below #[Value.ref b] s) (F0 m 628 ls []) := by
  obtain ⟨hx, hb, hr, hml, hown, hts0, hX, hbl, hlocks, hgv⟩ := C0
  have hts : ∀ w ∈ WA, w.before #[Value.ref b] s = true := fun w h => hts0 w (wA_tbl w h)
  have S : CallFix p m c code 4 s #[Value.ref b] WA RL := ⟨hx, hb, hml, hown, hts⟩
  have hbA : ¬ zAL s b := Nat.not_le.mpr hbl
  refine lv_aload_n hx hb dL_law_628 rfl (lv_at hl 2 rfl) ?_
  refine lv_aload_n hx hb dL_law_629 rfl (lv_at hl 3 rfl) ?_
  refine lv_iload_n hx hb dL_law_630 rfl (lv_at hl 0 rfl) ?_
  refine lv_iconst (v := nI 1) hx hb dL_law_631 (by decide) ?_
  refine lv_iadd hx hb dL_law_632 ?_
  refine va_sld hx hb hX hbl hbA hZ.1.2.2.2.1 (zL_idx hL e3 (k := 1) (by decide) hi) dL_law_633 ?_
  obtain ⟨r, σ1, σ2, h1, h2, hI⟩ := hop (xs (x3 + nI 1).toNatClampNeg)
  refine zz_lawi S hZ.2.2.1 hZ.1 hZ.2.1 hZ.2.2.2.2 (As := [.int (xs (x3 + nI 1).toNatClampNeg)]) (b := 0) (c_X11_through l D cy TC hZ.2.2.1 adC N σC _ 0 (xs (x3 + nI 1).toNatClampNeg) r σ1 h1) (cwV 1 hts (gV (fun _ h => h) wd_961 wd_962 wd_963 wd_102 wd_964) rfl rfl rfl (by decide +kernel) ⟨Nat.le_of_ble_eq_true rfl, Nat.le_of_ble_eq_true rfl⟩) (F := TX11) (NF := 5) 11 rfl (by decide) (k_X11_through TC N σC 0 (xs (x3 + nI 1).toNatClampNeg) _ h1) rfl hl.1 rfl (Nat.le_of_ble_eq_true rfl) dL_law_634 ⟨Nat.le_of_ble_eq_true rfl, Nat.le_of_ble_eq_true rfl⟩ (fun H locs hB1 hB2 => ?_)
  refine lv_aload_n hx hb dL_law_637 rfl (lv_at hl 1 rfl) ?_
  refine lv_aload_n hx hb dL_law_638 rfl (lv_at hl 3 rfl) ?_
  refine lv_iload_n hx hb dL_law_639 rfl (lv_at hl 0 rfl) ?_
  refine lv_iconst (v := nI 1) hx hb dL_law_640 (by decide) ?_
  refine lv_iadd hx hb dL_law_641 ?_
  refine va_sld hx hb hX hbl hbA hB1.2.2.2.1 (zL_idx hL e3 (k := 1) (by decide) hi) dL_law_642 ?_
  refine zz_lawi S hZ.2.2.2.1 hB2 hB1 (fun c c' h h' e => hZ.2.2.2.2 c' c h' h e.symm) (As := [.int (xs (x3 + nI 1).toNatClampNeg)]) (b := 0) (c_X12_through l D cy TM hZ.2.2.2.1 adM N σM _ 0 (xs (x3 + nI 1).toNatClampNeg) r σ2 h2) (cwV 1 hts (gV (fun _ h => h) wd_965 wd_966 wd_967 wd_572 wd_968) rfl rfl rfl (by decide +kernel) ⟨Nat.le_of_ble_eq_true rfl, Nat.le_of_ble_eq_true rfl⟩) (F := TX12) (NF := 24) 12 rfl (by decide) (k_X12_through TM N σM 0 (xs (x3 + nI 1).toNatClampNeg) _ h2) rfl hl.1 rfl (Nat.le_of_ble_eq_true rfl) dL_law_643 ⟨Nat.le_of_ble_eq_true rfl, Nat.le_of_ble_eq_true rfl⟩ (fun H locs hB2 hB1 => ?_)
  refine lv_icmp_eq (tgt := 1095) hx hb dL_law_646 (by decide) (fun _ => ?_) (fun h => absurd rfl h)
  exact kk σ1 σ2 H locs hI ⟨hB1, hB2, hZ.2.2⟩
set_option maxHeartbeats 4000000 in
set_option maxRecDepth 100000 in
theorem law_c13 {p : Program} {l : Launch} {e : Env} {s : State} {m : MethodId} {below : List Frame} {meth : Method} {c : Code} {b L : Nat} {xs : Nat → Int32} (hL : L ≤ 3072) (C0 : lw_At p s m meth c b L xs) {D : va_G} {cy : Nat → ClassId} {adC adM : Nat → Nat} {σC σM : zS} {H : Heap} {locs : List Loc} {TC TM : zT} {INV : zS → zS → Prop} {N : Nat} (hop : ∀ x0 x1 : Int32, zAg INV (f_X11_select TC N σC 0 x0 x1) (f_X12_select TM N σM 0 x0 x1)) {i : Nat} (hi : i + 6 ≤ L) {x3 : Int32} (e3 : x3 = nI i) (hZ : zLL TC TM D cy adC adM σC σM H locs s) {ls : Array Slot} (hl : lv_has ls 4 [(3, .int x3), (2, .ref (adM 0)), (1, .ref (adC 0)), (0, .ref b)])
    (kk : ∀ (σ1 σ2 : zS) (H : Heap) (locs : List Loc), INV σ1 σ2 → zLL TC TM D cy adC adM σ1 σ2 H locs s → W p l e room_1 s m #[Value.ref b] below meth c H locs 390 5709 (lw_Z below #[Value.ref b] s) (F0 m 1095 ls [])) : W p l e room_1 s m #[Value.ref b] below meth c H locs 390 5709 (lw_Z below #[Value.ref b] s) (F0 m 651 ls []) := by
  obtain ⟨hx, hb, hr, hml, hown, hts0, hX, hbl, hlocks, hgv⟩ := C0
  have hts : ∀ w ∈ WA, w.before #[Value.ref b] s = true := fun w h => hts0 w (wA_tbl w h)
  have S : CallFix p m c code 4 s #[Value.ref b] WA RL := ⟨hx, hb, hml, hown, hts⟩
  have hbA : ¬ zAL s b := Nat.not_le.mpr hbl
  refine lv_aload_n hx hb dL_law_651 rfl (lv_at hl 2 rfl) ?_
  refine lv_aload_n hx hb dL_law_652 rfl (lv_at hl 3 rfl) ?_
  refine lv_iload_n hx hb dL_law_653 rfl (lv_at hl 0 rfl) ?_
  refine lv_iconst (v := nI 1) hx hb dL_law_654 (by decide) ?_
  refine lv_iadd hx hb dL_law_655 ?_
  refine va_sld hx hb hX hbl hbA hZ.1.2.2.2.1 (zL_idx hL e3 (k := 1) (by decide) hi) dL_law_656 ?_
  refine lv_aload_n hx hb dL_law_657 rfl (lv_at hl 3 rfl) ?_
  refine lv_iload_n hx hb dL_law_658 rfl (lv_at hl 0 rfl) ?_
  refine lv_iconst (v := nI 2) hx hb dL_law_659 (by decide) ?_
  refine lv_iadd hx hb dL_law_660 ?_
  refine va_sld hx hb hX hbl hbA hZ.1.2.2.2.1 (zL_idx hL e3 (k := 2) (by decide) hi) dL_law_661 ?_
  have hJ1 : ∀ v0 : Int32, v0 = (if (xs (x3 + nI 2).toNatClampNeg) = 0 then (0 : Int32) else 1) → W p l e room_1 s m #[Value.ref b] below meth c H locs 390 5709 (lw_Z below #[Value.ref b] s) (F0 m 670 ls [.int v0, .int (xs (x3 + nI 1).toNatClampNeg), .ref (adC 0)]) := by
    intro v0 ev0
    obtain ⟨r, σ1, σ2, h1, h2, hI⟩ := hop (xs (x3 + nI 1).toNatClampNeg) v0
    refine zz_lawi S hZ.2.2.1 hZ.1 hZ.2.1 hZ.2.2.2.2 (As := [.int (xs (x3 + nI 1).toNatClampNeg), .int v0]) (b := 0) (c_X11_select l D cy TC hZ.2.2.1 adC N σC _ 0 (xs (x3 + nI 1).toNatClampNeg) v0 r σ1 h1) (cwV 2 hts (gV (fun _ h => h) wd_969 wd_970 wd_971 wd_102 wd_972) rfl rfl rfl (by decide +kernel) ⟨Nat.le_of_ble_eq_true rfl, Nat.le_of_ble_eq_true rfl⟩) (F := TX11) (NF := 5) 11 rfl (by decide) (k_X11_select TC N σC 0 (xs (x3 + nI 1).toNatClampNeg) v0 _ h1) rfl hl.1 rfl (Nat.le_of_ble_eq_true rfl) dL_law_670 ⟨Nat.le_of_ble_eq_true rfl, Nat.le_of_ble_eq_true rfl⟩ (fun H locs hB1 hB2 => ?_)
    refine lv_aload_n hx hb dL_law_673 rfl (lv_at hl 1 rfl) ?_
    refine lv_aload_n hx hb dL_law_674 rfl (lv_at hl 3 rfl) ?_
    refine lv_iload_n hx hb dL_law_675 rfl (lv_at hl 0 rfl) ?_
    refine lv_iconst (v := nI 1) hx hb dL_law_676 (by decide) ?_
    refine lv_iadd hx hb dL_law_677 ?_
    refine va_sld hx hb hX hbl hbA hB1.2.2.2.1 (zL_idx hL e3 (k := 1) (by decide) hi) dL_law_678 ?_
    refine lv_aload_n hx hb dL_law_679 rfl (lv_at hl 3 rfl) ?_
    refine lv_iload_n hx hb dL_law_680 rfl (lv_at hl 0 rfl) ?_
    refine lv_iconst (v := nI 2) hx hb dL_law_681 (by decide) ?_
    refine lv_iadd hx hb dL_law_682 ?_
    refine va_sld hx hb hX hbl hbA hB1.2.2.2.1 (zL_idx hL e3 (k := 2) (by decide) hi) dL_law_683 ?_
    have hJ2 : ∀ v1 : Int32, v1 = (if (xs (x3 + nI 2).toNatClampNeg) = 0 then (0 : Int32) else 1) → W p l e room_1 s m #[Value.ref b] below meth c H locs 390 5709 (lw_Z below #[Value.ref b] s) (F0 m 692 ls [.int v1, .int (xs (x3 + nI 1).toNatClampNeg), .ref (adM 0), .int r]) := by
      intro v1 ev1
      obtain rfl : v1 = v0 := ev1.trans ev0.symm
      refine zz_lawi S hZ.2.2.2.1 hB2 hB1 (fun c c' h h' e => hZ.2.2.2.2 c' c h' h e.symm) (As := [.int (xs (x3 + nI 1).toNatClampNeg), .int v1]) (b := 0) (c_X12_select l D cy TM hZ.2.2.2.1 adM N σM _ 0 (xs (x3 + nI 1).toNatClampNeg) v1 r σ2 h2) (cwV 2 hts (gV (fun _ h => h) wd_973 wd_974 wd_975 wd_572 wd_976) rfl rfl rfl (by decide +kernel) ⟨Nat.le_of_ble_eq_true rfl, Nat.le_of_ble_eq_true rfl⟩) (F := TX12) (NF := 24) 12 rfl (by decide) (k_X12_select TM N σM 0 (xs (x3 + nI 1).toNatClampNeg) v1 _ h2) rfl hl.1 rfl (Nat.le_of_ble_eq_true rfl) dL_law_692 ⟨Nat.le_of_ble_eq_true rfl, Nat.le_of_ble_eq_true rfl⟩ (fun H locs hB2 hB1 => ?_)
      refine lv_icmp_eq (tgt := 1095) hx hb dL_law_695 (by decide) (fun _ => ?_) (fun h => absurd rfl h)
      exact kk σ1 σ2 H locs hI ⟨hB1, hB2, hZ.2.2⟩
    refine lv_if_eq (tgt := 691) hx hb dL_law_684 (by decide) (fun hc => ?_) (fun hc => ?_)
    · refine lv_iconst (v := 0) hx hb dL_law_691 (by decide) ?_
      exact hJ2 0 (by rw [if_pos hc])
    · refine lv_iconst (v := 1) hx hb dL_law_687 (by decide) ?_
      refine lv_goto (tgt := 692) hx hb dL_law_688 (by decide) ?_
      exact hJ2 1 (by rw [if_neg hc])
  refine lv_if_eq (tgt := 669) hx hb dL_law_662 (by decide) (fun hc => ?_) (fun hc => ?_)
  · refine lv_iconst (v := 0) hx hb dL_law_669 (by decide) ?_
    exact hJ1 0 (by rw [if_pos hc])
  · refine lv_iconst (v := 1) hx hb dL_law_665 (by decide) ?_
    refine lv_goto (tgt := 670) hx hb dL_law_666 (by decide) ?_
    exact hJ1 1 (by rw [if_neg hc])
set_option maxHeartbeats 4000000 in
set_option maxRecDepth 100000 in
theorem law_c14 {p : Program} {l : Launch} {e : Env} {s : State} {m : MethodId} {below : List Frame} {meth : Method} {c : Code} {b L : Nat} {xs : Nat → Int32} (hL : L ≤ 3072) (C0 : lw_At p s m meth c b L xs) {D : va_G} {cy : Nat → ClassId} {adC adM : Nat → Nat} {σC σM : zS} {H : Heap} {locs : List Loc} {TC TM : zT} {INV : zS → zS → Prop} {N : Nat} (hop : zAg INV (f_X11_selected TC N σC 0) (f_X12_selected TM N σM 0)) {i : Nat} (hi : i + 6 ≤ L) {x3 : Int32} (e3 : x3 = nI i) (hZ : zLL TC TM D cy adC adM σC σM H locs s) {ls : Array Slot} (hl : lv_has ls 4 [(3, .int x3), (2, .ref (adM 0)), (1, .ref (adC 0)), (0, .ref b)])
    (kk : ∀ (σ1 σ2 : zS) (H : Heap) (locs : List Loc), INV σ1 σ2 → zLL TC TM D cy adC adM σ1 σ2 H locs s → W p l e room_1 s m #[Value.ref b] below meth c H locs 390 5709 (lw_Z below #[Value.ref b] s) (F0 m 1095 ls [])) : W p l e room_1 s m #[Value.ref b] below meth c H locs 390 5709 (lw_Z below #[Value.ref b] s) (F0 m 700 ls []) := by
  obtain ⟨hx, hb, hr, hml, hown, hts0, hX, hbl, hlocks, hgv⟩ := C0
  have hts : ∀ w ∈ WA, w.before #[Value.ref b] s = true := fun w h => hts0 w (wA_tbl w h)
  have S : CallFix p m c code 4 s #[Value.ref b] WA RL := ⟨hx, hb, hml, hown, hts⟩
  have hbA : ¬ zAL s b := Nat.not_le.mpr hbl
  refine lv_aload_n hx hb dL_law_700 rfl (lv_at hl 2 rfl) ?_
  obtain ⟨r, σ1, σ2, h1, h2, hI⟩ := hop 
  refine zz_lawi S hZ.2.2.1 hZ.1 hZ.2.1 hZ.2.2.2.2 (As := []) (b := 0) (c_X11_selected l D cy TC hZ.2.2.1 adC N σC _ 0  r σ1 h1) (cwV 0 hts (gV (fun _ h => h) wd_977 wd_978 wd_979 wd_102 wd_980) rfl rfl rfl (by decide +kernel) ⟨Nat.le_of_ble_eq_true rfl, Nat.le_of_ble_eq_true rfl⟩) (F := TX11) (NF := 5) 11 rfl (by decide) (k_X11_selected TC N σC 0  _ h1) rfl hl.1 rfl (Nat.le_of_ble_eq_true rfl) dL_law_701 ⟨Nat.le_of_ble_eq_true rfl, Nat.le_of_ble_eq_true rfl⟩ (fun H locs hB1 hB2 => ?_)
  refine lv_aload_n hx hb dL_law_704 rfl (lv_at hl 1 rfl) ?_
  refine zz_lawi S hZ.2.2.2.1 hB2 hB1 (fun c c' h h' e => hZ.2.2.2.2 c' c h' h e.symm) (As := []) (b := 0) (c_X12_selected l D cy TM hZ.2.2.2.1 adM N σM _ 0  r σ2 h2) (cwV 0 hts (gV (fun _ h => h) wd_981 wd_982 wd_983 wd_572 wd_984) rfl rfl rfl (by decide +kernel) ⟨Nat.le_of_ble_eq_true rfl, Nat.le_of_ble_eq_true rfl⟩) (F := TX12) (NF := 24) 12 rfl (by decide) (k_X12_selected TM N σM 0  _ h2) rfl hl.1 rfl (Nat.le_of_ble_eq_true rfl) dL_law_705 ⟨Nat.le_of_ble_eq_true rfl, Nat.le_of_ble_eq_true rfl⟩ (fun H locs hB2 hB1 => ?_)
  refine lv_icmp_eq (tgt := 1095) hx hb dL_law_708 (by decide) (fun _ => ?_) (fun h => absurd rfl h)
  exact kk σ1 σ2 H locs hI ⟨hB1, hB2, hZ.2.2⟩
set_option maxHeartbeats 4000000 in
set_option maxRecDepth 100000 in
theorem law_c15 {p : Program} {l : Launch} {e : Env} {s : State} {m : MethodId} {below : List Frame} {meth : Method} {c : Code} {b L : Nat} {xs : Nat → Int32} (hL : L ≤ 3072) (C0 : lw_At p s m meth c b L xs) {D : va_G} {cy : Nat → ClassId} {adC adM : Nat → Nat} {σC σM : zS} {H : Heap} {locs : List Loc} {TC TM : zT} {INV : zS → zS → Prop} {N : Nat} (hop : zAg INV (f_X11_group TC N σC 0) (f_X12_group TM N σM 0)) {i : Nat} (hi : i + 6 ≤ L) {x3 : Int32} (e3 : x3 = nI i) (hZ : zLL TC TM D cy adC adM σC σM H locs s) {ls : Array Slot} (hl : lv_has ls 4 [(3, .int x3), (2, .ref (adM 0)), (1, .ref (adC 0)), (0, .ref b)])
    (kk : ∀ (σ1 σ2 : zS) (H : Heap) (locs : List Loc), INV σ1 σ2 → zLL TC TM D cy adC adM σ1 σ2 H locs s → W p l e room_1 s m #[Value.ref b] below meth c H locs 390 5709 (lw_Z below #[Value.ref b] s) (F0 m 1095 ls [])) : W p l e room_1 s m #[Value.ref b] below meth c H locs 390 5709 (lw_Z below #[Value.ref b] s) (F0 m 713 ls []) := by
  obtain ⟨hx, hb, hr, hml, hown, hts0, hX, hbl, hlocks, hgv⟩ := C0
  have hts : ∀ w ∈ WA, w.before #[Value.ref b] s = true := fun w h => hts0 w (wA_tbl w h)
  have S : CallFix p m c code 4 s #[Value.ref b] WA RL := ⟨hx, hb, hml, hown, hts⟩
  have hbA : ¬ zAL s b := Nat.not_le.mpr hbl
  refine lv_aload_n hx hb dL_law_713 rfl (lv_at hl 2 rfl) ?_
  obtain ⟨r, σ1, σ2, h1, h2, hI⟩ := hop 
  refine zz_lawi S hZ.2.2.1 hZ.1 hZ.2.1 hZ.2.2.2.2 (As := []) (b := 0) (c_X11_group l D cy TC hZ.2.2.1 adC N σC _ 0  r σ1 h1) (cwV 0 hts (gV (fun _ h => h) wd_985 wd_986 wd_987 wd_102 wd_988) rfl rfl rfl (by decide +kernel) ⟨Nat.le_of_ble_eq_true rfl, Nat.le_of_ble_eq_true rfl⟩) (F := TX11) (NF := 5) 11 rfl (by decide) (k_X11_group TC N σC 0  _ h1) rfl hl.1 rfl (Nat.le_of_ble_eq_true rfl) dL_law_714 ⟨Nat.le_of_ble_eq_true rfl, Nat.le_of_ble_eq_true rfl⟩ (fun H locs hB1 hB2 => ?_)
  refine lv_aload_n hx hb dL_law_717 rfl (lv_at hl 1 rfl) ?_
  refine zz_lawi S hZ.2.2.2.1 hB2 hB1 (fun c c' h h' e => hZ.2.2.2.2 c' c h' h e.symm) (As := []) (b := 0) (c_X12_group l D cy TM hZ.2.2.2.1 adM N σM _ 0  r σ2 h2) (cwV 0 hts (gV (fun _ h => h) wd_989 wd_990 wd_991 wd_572 wd_992) rfl rfl rfl (by decide +kernel) ⟨Nat.le_of_ble_eq_true rfl, Nat.le_of_ble_eq_true rfl⟩) (F := TX12) (NF := 24) 12 rfl (by decide) (k_X12_group TM N σM 0  _ h2) rfl hl.1 rfl (Nat.le_of_ble_eq_true rfl) dL_law_718 ⟨Nat.le_of_ble_eq_true rfl, Nat.le_of_ble_eq_true rfl⟩ (fun H locs hB2 hB1 => ?_)
  refine lv_icmp_eq (tgt := 1095) hx hb dL_law_721 (by decide) (fun _ => ?_) (fun h => absurd rfl h)
  exact kk σ1 σ2 H locs hI ⟨hB1, hB2, hZ.2.2⟩
set_option maxHeartbeats 4000000 in
set_option maxRecDepth 100000 in
theorem law_c16 {p : Program} {l : Launch} {e : Env} {s : State} {m : MethodId} {below : List Frame} {meth : Method} {c : Code} {b L : Nat} {xs : Nat → Int32} (hL : L ≤ 3072) (C0 : lw_At p s m meth c b L xs) {D : va_G} {cy : Nat → ClassId} {adC adM : Nat → Nat} {σC σM : zS} {H : Heap} {locs : List Loc} {TC TM : zT} {INV : zS → zS → Prop} {N : Nat} (hop : ∀ x0 : Int32, zAg INV (f_X11_ungroup TC N σC 0 x0) (f_X12_ungroup TM N σM 0 x0)) {i : Nat} (hi : i + 6 ≤ L) {x3 : Int32} (e3 : x3 = nI i) (hZ : zLL TC TM D cy adC adM σC σM H locs s) {ls : Array Slot} (hl : lv_has ls 4 [(3, .int x3), (2, .ref (adM 0)), (1, .ref (adC 0)), (0, .ref b)])
    (kk : ∀ (σ1 σ2 : zS) (H : Heap) (locs : List Loc), INV σ1 σ2 → zLL TC TM D cy adC adM σ1 σ2 H locs s → W p l e room_1 s m #[Value.ref b] below meth c H locs 390 5709 (lw_Z below #[Value.ref b] s) (F0 m 1095 ls [])) : W p l e room_1 s m #[Value.ref b] below meth c H locs 390 5709 (lw_Z below #[Value.ref b] s) (F0 m 726 ls []) := by
  obtain ⟨hx, hb, hr, hml, hown, hts0, hX, hbl, hlocks, hgv⟩ := C0
  have hts : ∀ w ∈ WA, w.before #[Value.ref b] s = true := fun w h => hts0 w (wA_tbl w h)
  have S : CallFix p m c code 4 s #[Value.ref b] WA RL := ⟨hx, hb, hml, hown, hts⟩
  have hbA : ¬ zAL s b := Nat.not_le.mpr hbl
  refine lv_aload_n hx hb dL_law_726 rfl (lv_at hl 2 rfl) ?_
  refine lv_aload_n hx hb dL_law_727 rfl (lv_at hl 3 rfl) ?_
  refine lv_iload_n hx hb dL_law_728 rfl (lv_at hl 0 rfl) ?_
  refine lv_iconst (v := nI 1) hx hb dL_law_729 (by decide) ?_
  refine lv_iadd hx hb dL_law_730 ?_
  refine va_sld hx hb hX hbl hbA hZ.1.2.2.2.1 (zL_idx hL e3 (k := 1) (by decide) hi) dL_law_731 ?_
  obtain ⟨r, σ1, σ2, h1, h2, hI⟩ := hop (xs (x3 + nI 1).toNatClampNeg)
  refine zz_lawi S hZ.2.2.1 hZ.1 hZ.2.1 hZ.2.2.2.2 (As := [.int (xs (x3 + nI 1).toNatClampNeg)]) (b := 0) (c_X11_ungroup l D cy TC hZ.2.2.1 adC N σC _ 0 (xs (x3 + nI 1).toNatClampNeg) r σ1 h1) (cwV 1 hts (gV (fun _ h => h) wd_993 wd_994 wd_995 wd_102 wd_996) rfl rfl rfl (by decide +kernel) ⟨Nat.le_of_ble_eq_true rfl, Nat.le_of_ble_eq_true rfl⟩) (F := TX11) (NF := 5) 11 rfl (by decide) (k_X11_ungroup TC N σC 0 (xs (x3 + nI 1).toNatClampNeg) _ h1) rfl hl.1 rfl (Nat.le_of_ble_eq_true rfl) dL_law_732 ⟨Nat.le_of_ble_eq_true rfl, Nat.le_of_ble_eq_true rfl⟩ (fun H locs hB1 hB2 => ?_)
  refine lv_aload_n hx hb dL_law_735 rfl (lv_at hl 1 rfl) ?_
  refine lv_aload_n hx hb dL_law_736 rfl (lv_at hl 3 rfl) ?_
  refine lv_iload_n hx hb dL_law_737 rfl (lv_at hl 0 rfl) ?_
  refine lv_iconst (v := nI 1) hx hb dL_law_738 (by decide) ?_
  refine lv_iadd hx hb dL_law_739 ?_
  refine va_sld hx hb hX hbl hbA hB1.2.2.2.1 (zL_idx hL e3 (k := 1) (by decide) hi) dL_law_740 ?_
  refine zz_lawi S hZ.2.2.2.1 hB2 hB1 (fun c c' h h' e => hZ.2.2.2.2 c' c h' h e.symm) (As := [.int (xs (x3 + nI 1).toNatClampNeg)]) (b := 0) (c_X12_ungroup l D cy TM hZ.2.2.2.1 adM N σM _ 0 (xs (x3 + nI 1).toNatClampNeg) r σ2 h2) (cwV 1 hts (gV (fun _ h => h) wd_997 wd_998 wd_999 wd_572 wd_1000) rfl rfl rfl (by decide +kernel) ⟨Nat.le_of_ble_eq_true rfl, Nat.le_of_ble_eq_true rfl⟩) (F := TX12) (NF := 24) 12 rfl (by decide) (k_X12_ungroup TM N σM 0 (xs (x3 + nI 1).toNatClampNeg) _ h2) rfl hl.1 rfl (Nat.le_of_ble_eq_true rfl) dL_law_741 ⟨Nat.le_of_ble_eq_true rfl, Nat.le_of_ble_eq_true rfl⟩ (fun H locs hB2 hB1 => ?_)
  refine lv_icmp_eq (tgt := 1095) hx hb dL_law_744 (by decide) (fun _ => ?_) (fun h => absurd rfl h)
  exact kk σ1 σ2 H locs hI ⟨hB1, hB2, hZ.2.2⟩
set_option maxHeartbeats 4000000 in
set_option maxRecDepth 100000 in
theorem law_c17 {p : Program} {l : Launch} {e : Env} {s : State} {m : MethodId} {below : List Frame} {meth : Method} {c : Code} {b L : Nat} {xs : Nat → Int32} (hL : L ≤ 3072) (C0 : lw_At p s m meth c b L xs) {D : va_G} {cy : Nat → ClassId} {adC adM : Nat → Nat} {σC σM : zS} {H : Heap} {locs : List Loc} {TC TM : zT} {INV : zS → zS → Prop} {N : Nat} (hop : ∀ x0 : Int32, zAg INV (f_X11_shapesOf TC N σC 0 x0) (f_X12_shapesOf TM N σM 0 x0)) {i : Nat} (hi : i + 6 ≤ L) {x3 : Int32} (e3 : x3 = nI i) (hZ : zLL TC TM D cy adC adM σC σM H locs s) {ls : Array Slot} (hl : lv_has ls 4 [(3, .int x3), (2, .ref (adM 0)), (1, .ref (adC 0)), (0, .ref b)])
    (kk : ∀ (σ1 σ2 : zS) (H : Heap) (locs : List Loc), INV σ1 σ2 → zLL TC TM D cy adC adM σ1 σ2 H locs s → W p l e room_1 s m #[Value.ref b] below meth c H locs 390 5709 (lw_Z below #[Value.ref b] s) (F0 m 1095 ls [])) : W p l e room_1 s m #[Value.ref b] below meth c H locs 390 5709 (lw_Z below #[Value.ref b] s) (F0 m 749 ls []) := by
  obtain ⟨hx, hb, hr, hml, hown, hts0, hX, hbl, hlocks, hgv⟩ := C0
  have hts : ∀ w ∈ WA, w.before #[Value.ref b] s = true := fun w h => hts0 w (wA_tbl w h)
  have S : CallFix p m c code 4 s #[Value.ref b] WA RL := ⟨hx, hb, hml, hown, hts⟩
  have hbA : ¬ zAL s b := Nat.not_le.mpr hbl
  refine lv_aload_n hx hb dL_law_749 rfl (lv_at hl 2 rfl) ?_
  refine lv_aload_n hx hb dL_law_750 rfl (lv_at hl 3 rfl) ?_
  refine lv_iload_n hx hb dL_law_751 rfl (lv_at hl 0 rfl) ?_
  refine lv_iconst (v := nI 1) hx hb dL_law_752 (by decide) ?_
  refine lv_iadd hx hb dL_law_753 ?_
  refine va_sld hx hb hX hbl hbA hZ.1.2.2.2.1 (zL_idx hL e3 (k := 1) (by decide) hi) dL_law_754 ?_
  obtain ⟨r, σ1, σ2, h1, h2, hI⟩ := hop (xs (x3 + nI 1).toNatClampNeg)
  refine zz_lawi S hZ.2.2.1 hZ.1 hZ.2.1 hZ.2.2.2.2 (As := [.int (xs (x3 + nI 1).toNatClampNeg)]) (b := 0) (c_X11_shapesOf l D cy TC hZ.2.2.1 adC N σC _ 0 (xs (x3 + nI 1).toNatClampNeg) r σ1 h1) (cwV 1 hts (gV (fun _ h => h) wd_1001 wd_1002 wd_1003 wd_102 wd_1004) rfl rfl rfl (by decide +kernel) ⟨Nat.le_of_ble_eq_true rfl, Nat.le_of_ble_eq_true rfl⟩) (F := TX11) (NF := 5) 11 rfl (by decide) (k_X11_shapesOf TC N σC 0 (xs (x3 + nI 1).toNatClampNeg) _ h1) rfl hl.1 rfl (Nat.le_of_ble_eq_true rfl) dL_law_755 ⟨Nat.le_of_ble_eq_true rfl, Nat.le_of_ble_eq_true rfl⟩ (fun H locs hB1 hB2 => ?_)
  refine lv_aload_n hx hb dL_law_758 rfl (lv_at hl 1 rfl) ?_
  refine lv_aload_n hx hb dL_law_759 rfl (lv_at hl 3 rfl) ?_
  refine lv_iload_n hx hb dL_law_760 rfl (lv_at hl 0 rfl) ?_
  refine lv_iconst (v := nI 1) hx hb dL_law_761 (by decide) ?_
  refine lv_iadd hx hb dL_law_762 ?_
  refine va_sld hx hb hX hbl hbA hB1.2.2.2.1 (zL_idx hL e3 (k := 1) (by decide) hi) dL_law_763 ?_
  refine zz_lawi S hZ.2.2.2.1 hB2 hB1 (fun c c' h h' e => hZ.2.2.2.2 c' c h' h e.symm) (As := [.int (xs (x3 + nI 1).toNatClampNeg)]) (b := 0) (c_X12_shapesOf l D cy TM hZ.2.2.2.1 adM N σM _ 0 (xs (x3 + nI 1).toNatClampNeg) r σ2 h2) (cwV 1 hts (gV (fun _ h => h) wd_1005 wd_1006 wd_1007 wd_572 wd_1008) rfl rfl rfl (by decide +kernel) ⟨Nat.le_of_ble_eq_true rfl, Nat.le_of_ble_eq_true rfl⟩) (F := TX12) (NF := 24) 12 rfl (by decide) (k_X12_shapesOf TM N σM 0 (xs (x3 + nI 1).toNatClampNeg) _ h2) rfl hl.1 rfl (Nat.le_of_ble_eq_true rfl) dL_law_764 ⟨Nat.le_of_ble_eq_true rfl, Nat.le_of_ble_eq_true rfl⟩ (fun H locs hB2 hB1 => ?_)
  refine lv_icmp_eq (tgt := 1095) hx hb dL_law_767 (by decide) (fun _ => ?_) (fun h => absurd rfl h)
  exact kk σ1 σ2 H locs hI ⟨hB1, hB2, hZ.2.2⟩
set_option maxHeartbeats 4000000 in
set_option maxRecDepth 100000 in
theorem law_c18 {p : Program} {l : Launch} {e : Env} {s : State} {m : MethodId} {below : List Frame} {meth : Method} {c : Code} {b L : Nat} {xs : Nat → Int32} (hL : L ≤ 3072) (C0 : lw_At p s m meth c b L xs) {D : va_G} {cy : Nat → ClassId} {adC adM : Nat → Nat} {σC σM : zS} {H : Heap} {locs : List Loc} {TC TM : zT} {INV : zS → zS → Prop} {N : Nat} (hop : ∀ x0 x1 : Int32, zAg INV (f_X11_move TC N σC 0 x0 x1) (f_X12_move TM N σM 0 x0 x1)) {i : Nat} (hi : i + 6 ≤ L) {x3 : Int32} (e3 : x3 = nI i) (hZ : zLL TC TM D cy adC adM σC σM H locs s) {ls : Array Slot} (hl : lv_has ls 4 [(3, .int x3), (2, .ref (adM 0)), (1, .ref (adC 0)), (0, .ref b)])
    (kk : ∀ (σ1 σ2 : zS) (H : Heap) (locs : List Loc), INV σ1 σ2 → zLL TC TM D cy adC adM σ1 σ2 H locs s → W p l e room_1 s m #[Value.ref b] below meth c H locs 390 5709 (lw_Z below #[Value.ref b] s) (F0 m 1095 ls [])) : W p l e room_1 s m #[Value.ref b] below meth c H locs 390 5709 (lw_Z below #[Value.ref b] s) (F0 m 772 ls []) := by
  obtain ⟨hx, hb, hr, hml, hown, hts0, hX, hbl, hlocks, hgv⟩ := C0
  have hts : ∀ w ∈ WA, w.before #[Value.ref b] s = true := fun w h => hts0 w (wA_tbl w h)
  have S : CallFix p m c code 4 s #[Value.ref b] WA RL := ⟨hx, hb, hml, hown, hts⟩
  have hbA : ¬ zAL s b := Nat.not_le.mpr hbl
  refine lv_aload_n hx hb dL_law_772 rfl (lv_at hl 2 rfl) ?_
  refine lv_aload_n hx hb dL_law_773 rfl (lv_at hl 3 rfl) ?_
  refine lv_iload_n hx hb dL_law_774 rfl (lv_at hl 0 rfl) ?_
  refine lv_iconst (v := nI 1) hx hb dL_law_775 (by decide) ?_
  refine lv_iadd hx hb dL_law_776 ?_
  refine va_sld hx hb hX hbl hbA hZ.1.2.2.2.1 (zL_idx hL e3 (k := 1) (by decide) hi) dL_law_777 ?_
  refine lv_aload_n hx hb dL_law_778 rfl (lv_at hl 3 rfl) ?_
  refine lv_iload_n hx hb dL_law_779 rfl (lv_at hl 0 rfl) ?_
  refine lv_iconst (v := nI 2) hx hb dL_law_780 (by decide) ?_
  refine lv_iadd hx hb dL_law_781 ?_
  refine va_sld hx hb hX hbl hbA hZ.1.2.2.2.1 (zL_idx hL e3 (k := 2) (by decide) hi) dL_law_782 ?_
  obtain ⟨r, σ1, σ2, h1, h2, hI⟩ := hop (xs (x3 + nI 1).toNatClampNeg) (xs (x3 + nI 2).toNatClampNeg)
  refine zz_lawi S hZ.2.2.1 hZ.1 hZ.2.1 hZ.2.2.2.2 (As := [.int (xs (x3 + nI 1).toNatClampNeg), .int (xs (x3 + nI 2).toNatClampNeg)]) (b := 0) (c_X11_move l D cy TC hZ.2.2.1 adC N σC _ 0 (xs (x3 + nI 1).toNatClampNeg) (xs (x3 + nI 2).toNatClampNeg) r σ1 h1) (cwV 2 hts (gV (fun _ h => h) wd_1009 wd_1010 wd_1011 wd_102 wd_1012) rfl rfl rfl (by decide +kernel) ⟨Nat.le_of_ble_eq_true rfl, Nat.le_of_ble_eq_true rfl⟩) (F := TX11) (NF := 5) 11 rfl (by decide) (k_X11_move TC N σC 0 (xs (x3 + nI 1).toNatClampNeg) (xs (x3 + nI 2).toNatClampNeg) _ h1) rfl hl.1 rfl (Nat.le_of_ble_eq_true rfl) dL_law_783 ⟨Nat.le_of_ble_eq_true rfl, Nat.le_of_ble_eq_true rfl⟩ (fun H locs hB1 hB2 => ?_)
  refine lv_aload_n hx hb dL_law_786 rfl (lv_at hl 1 rfl) ?_
  refine lv_aload_n hx hb dL_law_787 rfl (lv_at hl 3 rfl) ?_
  refine lv_iload_n hx hb dL_law_788 rfl (lv_at hl 0 rfl) ?_
  refine lv_iconst (v := nI 1) hx hb dL_law_789 (by decide) ?_
  refine lv_iadd hx hb dL_law_790 ?_
  refine va_sld hx hb hX hbl hbA hB1.2.2.2.1 (zL_idx hL e3 (k := 1) (by decide) hi) dL_law_791 ?_
  refine lv_aload_n hx hb dL_law_792 rfl (lv_at hl 3 rfl) ?_
  refine lv_iload_n hx hb dL_law_793 rfl (lv_at hl 0 rfl) ?_
  refine lv_iconst (v := nI 2) hx hb dL_law_794 (by decide) ?_
  refine lv_iadd hx hb dL_law_795 ?_
  refine va_sld hx hb hX hbl hbA hB1.2.2.2.1 (zL_idx hL e3 (k := 2) (by decide) hi) dL_law_796 ?_
  refine zz_lawi S hZ.2.2.2.1 hB2 hB1 (fun c c' h h' e => hZ.2.2.2.2 c' c h' h e.symm) (As := [.int (xs (x3 + nI 1).toNatClampNeg), .int (xs (x3 + nI 2).toNatClampNeg)]) (b := 0) (c_X12_move l D cy TM hZ.2.2.2.1 adM N σM _ 0 (xs (x3 + nI 1).toNatClampNeg) (xs (x3 + nI 2).toNatClampNeg) r σ2 h2) (cwV 2 hts (gV (fun _ h => h) wd_1013 wd_1014 wd_1015 wd_572 wd_1016) rfl rfl rfl (by decide +kernel) ⟨Nat.le_of_ble_eq_true rfl, Nat.le_of_ble_eq_true rfl⟩) (F := TX12) (NF := 24) 12 rfl (by decide) (k_X12_move TM N σM 0 (xs (x3 + nI 1).toNatClampNeg) (xs (x3 + nI 2).toNatClampNeg) _ h2) rfl hl.1 rfl (Nat.le_of_ble_eq_true rfl) dL_law_797 ⟨Nat.le_of_ble_eq_true rfl, Nat.le_of_ble_eq_true rfl⟩ (fun H locs hB2 hB1 => ?_)
  refine lv_icmp_eq (tgt := 1095) hx hb dL_law_800 (by decide) (fun _ => ?_) (fun h => absurd rfl h)
  exact kk σ1 σ2 H locs hI ⟨hB1, hB2, hZ.2.2⟩
set_option maxHeartbeats 4000000 in
set_option maxRecDepth 100000 in
theorem law_c19 {p : Program} {l : Launch} {e : Env} {s : State} {m : MethodId} {below : List Frame} {meth : Method} {c : Code} {b L : Nat} {xs : Nat → Int32} (hL : L ≤ 3072) (C0 : lw_At p s m meth c b L xs) {D : va_G} {cy : Nat → ClassId} {adC adM : Nat → Nat} {σC σM : zS} {H : Heap} {locs : List Loc} {TC TM : zT} {INV : zS → zS → Prop} {N : Nat} (hop : ∀ x0 x1 : Int32, zAg INV (f_X11_drag TC N σC 0 x0 x1) (f_X12_drag TM N σM 0 x0 x1)) {i : Nat} (hi : i + 6 ≤ L) {x3 : Int32} (e3 : x3 = nI i) (hZ : zLL TC TM D cy adC adM σC σM H locs s) {ls : Array Slot} (hl : lv_has ls 4 [(3, .int x3), (2, .ref (adM 0)), (1, .ref (adC 0)), (0, .ref b)])
    (kk : ∀ (σ1 σ2 : zS) (H : Heap) (locs : List Loc), INV σ1 σ2 → zLL TC TM D cy adC adM σ1 σ2 H locs s → W p l e room_1 s m #[Value.ref b] below meth c H locs 390 5709 (lw_Z below #[Value.ref b] s) (F0 m 1095 ls [])) : W p l e room_1 s m #[Value.ref b] below meth c H locs 390 5709 (lw_Z below #[Value.ref b] s) (F0 m 805 ls []) := by
  obtain ⟨hx, hb, hr, hml, hown, hts0, hX, hbl, hlocks, hgv⟩ := C0
  have hts : ∀ w ∈ WA, w.before #[Value.ref b] s = true := fun w h => hts0 w (wA_tbl w h)
  have S : CallFix p m c code 4 s #[Value.ref b] WA RL := ⟨hx, hb, hml, hown, hts⟩
  have hbA : ¬ zAL s b := Nat.not_le.mpr hbl
  refine lv_aload_n hx hb dL_law_805 rfl (lv_at hl 2 rfl) ?_
  refine lv_aload_n hx hb dL_law_806 rfl (lv_at hl 3 rfl) ?_
  refine lv_iload_n hx hb dL_law_807 rfl (lv_at hl 0 rfl) ?_
  refine lv_iconst (v := nI 1) hx hb dL_law_808 (by decide) ?_
  refine lv_iadd hx hb dL_law_809 ?_
  refine va_sld hx hb hX hbl hbA hZ.1.2.2.2.1 (zL_idx hL e3 (k := 1) (by decide) hi) dL_law_810 ?_
  refine lv_aload_n hx hb dL_law_811 rfl (lv_at hl 3 rfl) ?_
  refine lv_iload_n hx hb dL_law_812 rfl (lv_at hl 0 rfl) ?_
  refine lv_iconst (v := nI 2) hx hb dL_law_813 (by decide) ?_
  refine lv_iadd hx hb dL_law_814 ?_
  refine va_sld hx hb hX hbl hbA hZ.1.2.2.2.1 (zL_idx hL e3 (k := 2) (by decide) hi) dL_law_815 ?_
  obtain ⟨r, σ1, σ2, h1, h2, hI⟩ := hop (xs (x3 + nI 1).toNatClampNeg) (xs (x3 + nI 2).toNatClampNeg)
  refine zz_lawi S hZ.2.2.1 hZ.1 hZ.2.1 hZ.2.2.2.2 (As := [.int (xs (x3 + nI 1).toNatClampNeg), .int (xs (x3 + nI 2).toNatClampNeg)]) (b := 0) (c_X11_drag l D cy TC hZ.2.2.1 adC N σC _ 0 (xs (x3 + nI 1).toNatClampNeg) (xs (x3 + nI 2).toNatClampNeg) r σ1 h1) (cwV 2 hts (gV (fun _ h => h) wd_1017 wd_1018 wd_1019 wd_102 wd_1020) rfl rfl rfl (by decide +kernel) ⟨Nat.le_of_ble_eq_true rfl, Nat.le_of_ble_eq_true rfl⟩) (F := TX11) (NF := 5) 11 rfl (by decide) (k_X11_drag TC N σC 0 (xs (x3 + nI 1).toNatClampNeg) (xs (x3 + nI 2).toNatClampNeg) _ h1) rfl hl.1 rfl (Nat.le_of_ble_eq_true rfl) dL_law_816 ⟨Nat.le_of_ble_eq_true rfl, Nat.le_of_ble_eq_true rfl⟩ (fun H locs hB1 hB2 => ?_)
  refine lv_aload_n hx hb dL_law_819 rfl (lv_at hl 1 rfl) ?_
  refine lv_aload_n hx hb dL_law_820 rfl (lv_at hl 3 rfl) ?_
  refine lv_iload_n hx hb dL_law_821 rfl (lv_at hl 0 rfl) ?_
  refine lv_iconst (v := nI 1) hx hb dL_law_822 (by decide) ?_
  refine lv_iadd hx hb dL_law_823 ?_
  refine va_sld hx hb hX hbl hbA hB1.2.2.2.1 (zL_idx hL e3 (k := 1) (by decide) hi) dL_law_824 ?_
  refine lv_aload_n hx hb dL_law_825 rfl (lv_at hl 3 rfl) ?_
  refine lv_iload_n hx hb dL_law_826 rfl (lv_at hl 0 rfl) ?_
  refine lv_iconst (v := nI 2) hx hb dL_law_827 (by decide) ?_
  refine lv_iadd hx hb dL_law_828 ?_
  refine va_sld hx hb hX hbl hbA hB1.2.2.2.1 (zL_idx hL e3 (k := 2) (by decide) hi) dL_law_829 ?_
  refine zz_lawi S hZ.2.2.2.1 hB2 hB1 (fun c c' h h' e => hZ.2.2.2.2 c' c h' h e.symm) (As := [.int (xs (x3 + nI 1).toNatClampNeg), .int (xs (x3 + nI 2).toNatClampNeg)]) (b := 0) (c_X12_drag l D cy TM hZ.2.2.2.1 adM N σM _ 0 (xs (x3 + nI 1).toNatClampNeg) (xs (x3 + nI 2).toNatClampNeg) r σ2 h2) (cwV 2 hts (gV (fun _ h => h) wd_1021 wd_1022 wd_1023 wd_572 wd_1024) rfl rfl rfl (by decide +kernel) ⟨Nat.le_of_ble_eq_true rfl, Nat.le_of_ble_eq_true rfl⟩) (F := TX12) (NF := 24) 12 rfl (by decide) (k_X12_drag TM N σM 0 (xs (x3 + nI 1).toNatClampNeg) (xs (x3 + nI 2).toNatClampNeg) _ h2) rfl hl.1 rfl (Nat.le_of_ble_eq_true rfl) dL_law_830 ⟨Nat.le_of_ble_eq_true rfl, Nat.le_of_ble_eq_true rfl⟩ (fun H locs hB2 hB1 => ?_)
  refine lv_icmp_eq (tgt := 1095) hx hb dL_law_833 (by decide) (fun _ => ?_) (fun h => absurd rfl h)
  exact kk σ1 σ2 H locs hI ⟨hB1, hB2, hZ.2.2⟩
set_option maxHeartbeats 4000000 in
set_option maxRecDepth 100000 in
theorem law_c20 {p : Program} {l : Launch} {e : Env} {s : State} {m : MethodId} {below : List Frame} {meth : Method} {c : Code} {b L : Nat} {xs : Nat → Int32} (hL : L ≤ 3072) (C0 : lw_At p s m meth c b L xs) {D : va_G} {cy : Nat → ClassId} {adC adM : Nat → Nat} {σC σM : zS} {H : Heap} {locs : List Loc} {TC TM : zT} {INV : zS → zS → Prop} {N : Nat} (hop : ∀ x0 x1 x2 : Int32, zAg INV (f_X11_correction TC N σC 0 x0 x1 x2) (f_X12_correction TM N σM 0 x0 x1 x2)) {i : Nat} (hi : i + 6 ≤ L) {x3 : Int32} (e3 : x3 = nI i) (hZ : zLL TC TM D cy adC adM σC σM H locs s) {ls : Array Slot} (hl : lv_has ls 4 [(3, .int x3), (2, .ref (adM 0)), (1, .ref (adC 0)), (0, .ref b)])
    (kk : ∀ (σ1 σ2 : zS) (H : Heap) (locs : List Loc), INV σ1 σ2 → zLL TC TM D cy adC adM σ1 σ2 H locs s → W p l e room_1 s m #[Value.ref b] below meth c H locs 390 5709 (lw_Z below #[Value.ref b] s) (F0 m 1095 ls [])) : W p l e room_1 s m #[Value.ref b] below meth c H locs 390 5709 (lw_Z below #[Value.ref b] s) (F0 m 838 ls []) := by
  obtain ⟨hx, hb, hr, hml, hown, hts0, hX, hbl, hlocks, hgv⟩ := C0
  have hts : ∀ w ∈ WA, w.before #[Value.ref b] s = true := fun w h => hts0 w (wA_tbl w h)
  have S : CallFix p m c code 4 s #[Value.ref b] WA RL := ⟨hx, hb, hml, hown, hts⟩
  have hbA : ¬ zAL s b := Nat.not_le.mpr hbl
  refine lv_aload_n hx hb dL_law_838 rfl (lv_at hl 2 rfl) ?_
  refine lv_aload_n hx hb dL_law_839 rfl (lv_at hl 3 rfl) ?_
  refine lv_iload_n hx hb dL_law_840 rfl (lv_at hl 0 rfl) ?_
  refine lv_iconst (v := nI 1) hx hb dL_law_841 (by decide) ?_
  refine lv_iadd hx hb dL_law_842 ?_
  refine va_sld hx hb hX hbl hbA hZ.1.2.2.2.1 (zL_idx hL e3 (k := 1) (by decide) hi) dL_law_843 ?_
  refine lv_aload_n hx hb dL_law_844 rfl (lv_at hl 3 rfl) ?_
  refine lv_iload_n hx hb dL_law_845 rfl (lv_at hl 0 rfl) ?_
  refine lv_iconst (v := nI 2) hx hb dL_law_846 (by decide) ?_
  refine lv_iadd hx hb dL_law_847 ?_
  refine va_sld hx hb hX hbl hbA hZ.1.2.2.2.1 (zL_idx hL e3 (k := 2) (by decide) hi) dL_law_848 ?_
  refine lv_aload_n hx hb dL_law_849 rfl (lv_at hl 3 rfl) ?_
  refine lv_iload_n hx hb dL_law_850 rfl (lv_at hl 0 rfl) ?_
  refine lv_iconst (v := nI 3) hx hb dL_law_851 (by decide) ?_
  refine lv_iadd hx hb dL_law_852 ?_
  refine va_sld hx hb hX hbl hbA hZ.1.2.2.2.1 (zL_idx hL e3 (k := 3) (by decide) hi) dL_law_853 ?_
  obtain ⟨r, σ1, σ2, h1, h2, hI⟩ := hop (xs (x3 + nI 1).toNatClampNeg) (xs (x3 + nI 2).toNatClampNeg) (xs (x3 + nI 3).toNatClampNeg)
  refine zz_lawi S hZ.2.2.1 hZ.1 hZ.2.1 hZ.2.2.2.2 (As := [.int (xs (x3 + nI 1).toNatClampNeg), .int (xs (x3 + nI 2).toNatClampNeg), .int (xs (x3 + nI 3).toNatClampNeg)]) (b := 0) (c_X11_correction l D cy TC hZ.2.2.1 adC N σC _ 0 (xs (x3 + nI 1).toNatClampNeg) (xs (x3 + nI 2).toNatClampNeg) (xs (x3 + nI 3).toNatClampNeg) r σ1 h1) (cwV 3 hts (gV (fun _ h => h) wd_1025 wd_1026 wd_1027 wd_102 wd_1028) rfl rfl rfl (by decide +kernel) ⟨Nat.le_of_ble_eq_true rfl, Nat.le_of_ble_eq_true rfl⟩) (F := TX11) (NF := 5) 11 rfl (by decide) (k_X11_correction TC N σC 0 (xs (x3 + nI 1).toNatClampNeg) (xs (x3 + nI 2).toNatClampNeg) (xs (x3 + nI 3).toNatClampNeg) _ h1) rfl hl.1 rfl (Nat.le_of_ble_eq_true rfl) dL_law_854 ⟨Nat.le_of_ble_eq_true rfl, Nat.le_of_ble_eq_true rfl⟩ (fun H locs hB1 hB2 => ?_)
  refine lv_aload_n hx hb dL_law_857 rfl (lv_at hl 1 rfl) ?_
  refine lv_aload_n hx hb dL_law_858 rfl (lv_at hl 3 rfl) ?_
  refine lv_iload_n hx hb dL_law_859 rfl (lv_at hl 0 rfl) ?_
  refine lv_iconst (v := nI 1) hx hb dL_law_860 (by decide) ?_
  refine lv_iadd hx hb dL_law_861 ?_
  refine va_sld hx hb hX hbl hbA hB1.2.2.2.1 (zL_idx hL e3 (k := 1) (by decide) hi) dL_law_862 ?_
  refine lv_aload_n hx hb dL_law_863 rfl (lv_at hl 3 rfl) ?_
  refine lv_iload_n hx hb dL_law_864 rfl (lv_at hl 0 rfl) ?_
  refine lv_iconst (v := nI 2) hx hb dL_law_865 (by decide) ?_
  refine lv_iadd hx hb dL_law_866 ?_
  refine va_sld hx hb hX hbl hbA hB1.2.2.2.1 (zL_idx hL e3 (k := 2) (by decide) hi) dL_law_867 ?_
  refine lv_aload_n hx hb dL_law_868 rfl (lv_at hl 3 rfl) ?_
  refine lv_iload_n hx hb dL_law_869 rfl (lv_at hl 0 rfl) ?_
  refine lv_iconst (v := nI 3) hx hb dL_law_870 (by decide) ?_
  refine lv_iadd hx hb dL_law_871 ?_
  refine va_sld hx hb hX hbl hbA hB1.2.2.2.1 (zL_idx hL e3 (k := 3) (by decide) hi) dL_law_872 ?_
  refine zz_lawi S hZ.2.2.2.1 hB2 hB1 (fun c c' h h' e => hZ.2.2.2.2 c' c h' h e.symm) (As := [.int (xs (x3 + nI 1).toNatClampNeg), .int (xs (x3 + nI 2).toNatClampNeg), .int (xs (x3 + nI 3).toNatClampNeg)]) (b := 0) (c_X12_correction l D cy TM hZ.2.2.2.1 adM N σM _ 0 (xs (x3 + nI 1).toNatClampNeg) (xs (x3 + nI 2).toNatClampNeg) (xs (x3 + nI 3).toNatClampNeg) r σ2 h2) (cwV 3 hts (gV (fun _ h => h) wd_1029 wd_1030 wd_1031 wd_572 wd_1032) rfl rfl rfl (by decide +kernel) ⟨Nat.le_of_ble_eq_true rfl, Nat.le_of_ble_eq_true rfl⟩) (F := TX12) (NF := 24) 12 rfl (by decide) (k_X12_correction TM N σM 0 (xs (x3 + nI 1).toNatClampNeg) (xs (x3 + nI 2).toNatClampNeg) (xs (x3 + nI 3).toNatClampNeg) _ h2) rfl hl.1 rfl (Nat.le_of_ble_eq_true rfl) dL_law_873 ⟨Nat.le_of_ble_eq_true rfl, Nat.le_of_ble_eq_true rfl⟩ (fun H locs hB2 hB1 => ?_)
  refine lv_icmp_eq (tgt := 1095) hx hb dL_law_876 (by decide) (fun _ => ?_) (fun h => absurd rfl h)
  exact kk σ1 σ2 H locs hI ⟨hB1, hB2, hZ.2.2⟩
set_option maxHeartbeats 4000000 in
set_option maxRecDepth 100000 in
theorem law_c21 {p : Program} {l : Launch} {e : Env} {s : State} {m : MethodId} {below : List Frame} {meth : Method} {c : Code} {b L : Nat} {xs : Nat → Int32} (hL : L ≤ 3072) (C0 : lw_At p s m meth c b L xs) {D : va_G} {cy : Nat → ClassId} {adC adM : Nat → Nat} {σC σM : zS} {H : Heap} {locs : List Loc} {TC TM : zT} {INV : zS → zS → Prop} {N : Nat} (hop : ∀ x0 : Int32, zAg INV (f_X11_align TC N σC 0 x0) (f_X12_align TM N σM 0 x0)) {i : Nat} (hi : i + 6 ≤ L) {x3 : Int32} (e3 : x3 = nI i) (hZ : zLL TC TM D cy adC adM σC σM H locs s) {ls : Array Slot} (hl : lv_has ls 4 [(3, .int x3), (2, .ref (adM 0)), (1, .ref (adC 0)), (0, .ref b)])
    (kk : ∀ (σ1 σ2 : zS) (H : Heap) (locs : List Loc), INV σ1 σ2 → zLL TC TM D cy adC adM σ1 σ2 H locs s → W p l e room_1 s m #[Value.ref b] below meth c H locs 390 5709 (lw_Z below #[Value.ref b] s) (F0 m 1095 ls [])) : W p l e room_1 s m #[Value.ref b] below meth c H locs 390 5709 (lw_Z below #[Value.ref b] s) (F0 m 881 ls []) := by
  obtain ⟨hx, hb, hr, hml, hown, hts0, hX, hbl, hlocks, hgv⟩ := C0
  have hts : ∀ w ∈ WA, w.before #[Value.ref b] s = true := fun w h => hts0 w (wA_tbl w h)
  have S : CallFix p m c code 4 s #[Value.ref b] WA RL := ⟨hx, hb, hml, hown, hts⟩
  have hbA : ¬ zAL s b := Nat.not_le.mpr hbl
  refine lv_aload_n hx hb dL_law_881 rfl (lv_at hl 2 rfl) ?_
  refine lv_aload_n hx hb dL_law_882 rfl (lv_at hl 3 rfl) ?_
  refine lv_iload_n hx hb dL_law_883 rfl (lv_at hl 0 rfl) ?_
  refine lv_iconst (v := nI 1) hx hb dL_law_884 (by decide) ?_
  refine lv_iadd hx hb dL_law_885 ?_
  refine va_sld hx hb hX hbl hbA hZ.1.2.2.2.1 (zL_idx hL e3 (k := 1) (by decide) hi) dL_law_886 ?_
  obtain ⟨r, σ1, σ2, h1, h2, hI⟩ := hop (xs (x3 + nI 1).toNatClampNeg)
  refine zz_lawi S hZ.2.2.1 hZ.1 hZ.2.1 hZ.2.2.2.2 (As := [.int (xs (x3 + nI 1).toNatClampNeg)]) (b := 0) (c_X11_align l D cy TC hZ.2.2.1 adC N σC _ 0 (xs (x3 + nI 1).toNatClampNeg) r σ1 h1) (cwV 1 hts (gV (fun _ h => h) wd_1033 wd_1034 wd_1035 wd_102 wd_1036) rfl rfl rfl (by decide +kernel) ⟨Nat.le_of_ble_eq_true rfl, Nat.le_of_ble_eq_true rfl⟩) (F := TX11) (NF := 5) 11 rfl (by decide) (k_X11_align TC N σC 0 (xs (x3 + nI 1).toNatClampNeg) _ h1) rfl hl.1 rfl (Nat.le_of_ble_eq_true rfl) dL_law_887 ⟨Nat.le_of_ble_eq_true rfl, Nat.le_of_ble_eq_true rfl⟩ (fun H locs hB1 hB2 => ?_)
  refine lv_aload_n hx hb dL_law_890 rfl (lv_at hl 1 rfl) ?_
  refine lv_aload_n hx hb dL_law_891 rfl (lv_at hl 3 rfl) ?_
  refine lv_iload_n hx hb dL_law_892 rfl (lv_at hl 0 rfl) ?_
  refine lv_iconst (v := nI 1) hx hb dL_law_893 (by decide) ?_
  refine lv_iadd hx hb dL_law_894 ?_
  refine va_sld hx hb hX hbl hbA hB1.2.2.2.1 (zL_idx hL e3 (k := 1) (by decide) hi) dL_law_895 ?_
  refine zz_lawi S hZ.2.2.2.1 hB2 hB1 (fun c c' h h' e => hZ.2.2.2.2 c' c h' h e.symm) (As := [.int (xs (x3 + nI 1).toNatClampNeg)]) (b := 0) (c_X12_align l D cy TM hZ.2.2.2.1 adM N σM _ 0 (xs (x3 + nI 1).toNatClampNeg) r σ2 h2) (cwV 1 hts (gV (fun _ h => h) wd_1037 wd_1038 wd_1039 wd_572 wd_1040) rfl rfl rfl (by decide +kernel) ⟨Nat.le_of_ble_eq_true rfl, Nat.le_of_ble_eq_true rfl⟩) (F := TX12) (NF := 24) 12 rfl (by decide) (k_X12_align TM N σM 0 (xs (x3 + nI 1).toNatClampNeg) _ h2) rfl hl.1 rfl (Nat.le_of_ble_eq_true rfl) dL_law_896 ⟨Nat.le_of_ble_eq_true rfl, Nat.le_of_ble_eq_true rfl⟩ (fun H locs hB2 hB1 => ?_)
  refine lv_icmp_eq (tgt := 1095) hx hb dL_law_899 (by decide) (fun _ => ?_) (fun h => absurd rfl h)
  exact kk σ1 σ2 H locs hI ⟨hB1, hB2, hZ.2.2⟩
set_option maxHeartbeats 4000000 in
set_option maxRecDepth 100000 in
theorem law_c22 {p : Program} {l : Launch} {e : Env} {s : State} {m : MethodId} {below : List Frame} {meth : Method} {c : Code} {b L : Nat} {xs : Nat → Int32} (hL : L ≤ 3072) (C0 : lw_At p s m meth c b L xs) {D : va_G} {cy : Nat → ClassId} {adC adM : Nat → Nat} {σC σM : zS} {H : Heap} {locs : List Loc} {TC TM : zT} {INV : zS → zS → Prop} {N : Nat} (hop : ∀ x0 : Int32, zAg INV (f_X11_distribute TC N σC 0 x0) (f_X12_distribute TM N σM 0 x0)) {i : Nat} (hi : i + 6 ≤ L) {x3 : Int32} (e3 : x3 = nI i) (hZ : zLL TC TM D cy adC adM σC σM H locs s) {ls : Array Slot} (hl : lv_has ls 4 [(3, .int x3), (2, .ref (adM 0)), (1, .ref (adC 0)), (0, .ref b)])
    (kk : ∀ (σ1 σ2 : zS) (H : Heap) (locs : List Loc), INV σ1 σ2 → zLL TC TM D cy adC adM σ1 σ2 H locs s → W p l e room_1 s m #[Value.ref b] below meth c H locs 390 5709 (lw_Z below #[Value.ref b] s) (F0 m 1095 ls [])) : W p l e room_1 s m #[Value.ref b] below meth c H locs 390 5709 (lw_Z below #[Value.ref b] s) (F0 m 904 ls []) := by
  obtain ⟨hx, hb, hr, hml, hown, hts0, hX, hbl, hlocks, hgv⟩ := C0
  have hts : ∀ w ∈ WA, w.before #[Value.ref b] s = true := fun w h => hts0 w (wA_tbl w h)
  have S : CallFix p m c code 4 s #[Value.ref b] WA RL := ⟨hx, hb, hml, hown, hts⟩
  have hbA : ¬ zAL s b := Nat.not_le.mpr hbl
  refine lv_aload_n hx hb dL_law_904 rfl (lv_at hl 2 rfl) ?_
  refine lv_aload_n hx hb dL_law_905 rfl (lv_at hl 3 rfl) ?_
  refine lv_iload_n hx hb dL_law_906 rfl (lv_at hl 0 rfl) ?_
  refine lv_iconst (v := nI 1) hx hb dL_law_907 (by decide) ?_
  refine lv_iadd hx hb dL_law_908 ?_
  refine va_sld hx hb hX hbl hbA hZ.1.2.2.2.1 (zL_idx hL e3 (k := 1) (by decide) hi) dL_law_909 ?_
  obtain ⟨r, σ1, σ2, h1, h2, hI⟩ := hop (xs (x3 + nI 1).toNatClampNeg)
  refine zz_lawi S hZ.2.2.1 hZ.1 hZ.2.1 hZ.2.2.2.2 (As := [.int (xs (x3 + nI 1).toNatClampNeg)]) (b := 0) (c_X11_distribute l D cy TC hZ.2.2.1 adC N σC _ 0 (xs (x3 + nI 1).toNatClampNeg) r σ1 h1) (cwV 1 hts (gV (fun _ h => h) wd_1041 wd_1042 wd_1043 wd_102 wd_1044) rfl rfl rfl (by decide +kernel) ⟨Nat.le_of_ble_eq_true rfl, Nat.le_of_ble_eq_true rfl⟩) (F := TX11) (NF := 5) 11 rfl (by decide) (k_X11_distribute TC N σC 0 (xs (x3 + nI 1).toNatClampNeg) _ h1) rfl hl.1 rfl (Nat.le_of_ble_eq_true rfl) dL_law_910 ⟨Nat.le_of_ble_eq_true rfl, Nat.le_of_ble_eq_true rfl⟩ (fun H locs hB1 hB2 => ?_)
  refine lv_aload_n hx hb dL_law_913 rfl (lv_at hl 1 rfl) ?_
  refine lv_aload_n hx hb dL_law_914 rfl (lv_at hl 3 rfl) ?_
  refine lv_iload_n hx hb dL_law_915 rfl (lv_at hl 0 rfl) ?_
  refine lv_iconst (v := nI 1) hx hb dL_law_916 (by decide) ?_
  refine lv_iadd hx hb dL_law_917 ?_
  refine va_sld hx hb hX hbl hbA hB1.2.2.2.1 (zL_idx hL e3 (k := 1) (by decide) hi) dL_law_918 ?_
  refine zz_lawi S hZ.2.2.2.1 hB2 hB1 (fun c c' h h' e => hZ.2.2.2.2 c' c h' h e.symm) (As := [.int (xs (x3 + nI 1).toNatClampNeg)]) (b := 0) (c_X12_distribute l D cy TM hZ.2.2.2.1 adM N σM _ 0 (xs (x3 + nI 1).toNatClampNeg) r σ2 h2) (cwV 1 hts (gV (fun _ h => h) wd_1045 wd_1046 wd_1047 wd_572 wd_1048) rfl rfl rfl (by decide +kernel) ⟨Nat.le_of_ble_eq_true rfl, Nat.le_of_ble_eq_true rfl⟩) (F := TX12) (NF := 24) 12 rfl (by decide) (k_X12_distribute TM N σM 0 (xs (x3 + nI 1).toNatClampNeg) _ h2) rfl hl.1 rfl (Nat.le_of_ble_eq_true rfl) dL_law_919 ⟨Nat.le_of_ble_eq_true rfl, Nat.le_of_ble_eq_true rfl⟩ (fun H locs hB2 hB1 => ?_)
  refine lv_icmp_eq (tgt := 1095) hx hb dL_law_922 (by decide) (fun _ => ?_) (fun h => absurd rfl h)
  exact kk σ1 σ2 H locs hI ⟨hB1, hB2, hZ.2.2⟩
set_option maxHeartbeats 4000000 in
set_option maxRecDepth 100000 in
theorem law_c23 {p : Program} {l : Launch} {e : Env} {s : State} {m : MethodId} {below : List Frame} {meth : Method} {c : Code} {b L : Nat} {xs : Nat → Int32} (hL : L ≤ 3072) (C0 : lw_At p s m meth c b L xs) {D : va_G} {cy : Nat → ClassId} {adC adM : Nat → Nat} {σC σM : zS} {H : Heap} {locs : List Loc} {TC TM : zT} {INV : zS → zS → Prop} {N : Nat} (hop : ∀ x0 x1 : Int32, zAg INV (f_X11_addGuide TC N σC 0 x0 x1) (f_X12_addGuide TM N σM 0 x0 x1)) {i : Nat} (hi : i + 6 ≤ L) {x3 : Int32} (e3 : x3 = nI i) (hZ : zLL TC TM D cy adC adM σC σM H locs s) {ls : Array Slot} (hl : lv_has ls 4 [(3, .int x3), (2, .ref (adM 0)), (1, .ref (adC 0)), (0, .ref b)])
    (kk : ∀ (σ1 σ2 : zS) (H : Heap) (locs : List Loc), INV σ1 σ2 → zLL TC TM D cy adC adM σ1 σ2 H locs s → W p l e room_1 s m #[Value.ref b] below meth c H locs 390 5709 (lw_Z below #[Value.ref b] s) (F0 m 1095 ls [])) : W p l e room_1 s m #[Value.ref b] below meth c H locs 390 5709 (lw_Z below #[Value.ref b] s) (F0 m 927 ls []) := by
  obtain ⟨hx, hb, hr, hml, hown, hts0, hX, hbl, hlocks, hgv⟩ := C0
  have hts : ∀ w ∈ WA, w.before #[Value.ref b] s = true := fun w h => hts0 w (wA_tbl w h)
  have S : CallFix p m c code 4 s #[Value.ref b] WA RL := ⟨hx, hb, hml, hown, hts⟩
  have hbA : ¬ zAL s b := Nat.not_le.mpr hbl
  refine lv_aload_n hx hb dL_law_927 rfl (lv_at hl 2 rfl) ?_
  refine lv_aload_n hx hb dL_law_928 rfl (lv_at hl 3 rfl) ?_
  refine lv_iload_n hx hb dL_law_929 rfl (lv_at hl 0 rfl) ?_
  refine lv_iconst (v := nI 1) hx hb dL_law_930 (by decide) ?_
  refine lv_iadd hx hb dL_law_931 ?_
  refine va_sld hx hb hX hbl hbA hZ.1.2.2.2.1 (zL_idx hL e3 (k := 1) (by decide) hi) dL_law_932 ?_
  refine lv_aload_n hx hb dL_law_933 rfl (lv_at hl 3 rfl) ?_
  refine lv_iload_n hx hb dL_law_934 rfl (lv_at hl 0 rfl) ?_
  refine lv_iconst (v := nI 2) hx hb dL_law_935 (by decide) ?_
  refine lv_iadd hx hb dL_law_936 ?_
  refine va_sld hx hb hX hbl hbA hZ.1.2.2.2.1 (zL_idx hL e3 (k := 2) (by decide) hi) dL_law_937 ?_
  obtain ⟨r, σ1, σ2, h1, h2, hI⟩ := hop (xs (x3 + nI 1).toNatClampNeg) (xs (x3 + nI 2).toNatClampNeg)
  refine zz_lawi S hZ.2.2.1 hZ.1 hZ.2.1 hZ.2.2.2.2 (As := [.int (xs (x3 + nI 1).toNatClampNeg), .int (xs (x3 + nI 2).toNatClampNeg)]) (b := 0) (c_X11_addGuide l D cy TC hZ.2.2.1 adC N σC _ 0 (xs (x3 + nI 1).toNatClampNeg) (xs (x3 + nI 2).toNatClampNeg) r σ1 h1) (cwV 2 hts (gV (fun _ h => h) wd_1049 wd_1050 wd_1051 wd_102 wd_1052) rfl rfl rfl (by decide +kernel) ⟨Nat.le_of_ble_eq_true rfl, Nat.le_of_ble_eq_true rfl⟩) (F := TX11) (NF := 5) 11 rfl (by decide) (k_X11_addGuide TC N σC 0 (xs (x3 + nI 1).toNatClampNeg) (xs (x3 + nI 2).toNatClampNeg) _ h1) rfl hl.1 rfl (Nat.le_of_ble_eq_true rfl) dL_law_938 ⟨Nat.le_of_ble_eq_true rfl, Nat.le_of_ble_eq_true rfl⟩ (fun H locs hB1 hB2 => ?_)
  refine lv_aload_n hx hb dL_law_941 rfl (lv_at hl 1 rfl) ?_
  refine lv_aload_n hx hb dL_law_942 rfl (lv_at hl 3 rfl) ?_
  refine lv_iload_n hx hb dL_law_943 rfl (lv_at hl 0 rfl) ?_
  refine lv_iconst (v := nI 1) hx hb dL_law_944 (by decide) ?_
  refine lv_iadd hx hb dL_law_945 ?_
  refine va_sld hx hb hX hbl hbA hB1.2.2.2.1 (zL_idx hL e3 (k := 1) (by decide) hi) dL_law_946 ?_
  refine lv_aload_n hx hb dL_law_947 rfl (lv_at hl 3 rfl) ?_
  refine lv_iload_n hx hb dL_law_948 rfl (lv_at hl 0 rfl) ?_
  refine lv_iconst (v := nI 2) hx hb dL_law_949 (by decide) ?_
  refine lv_iadd hx hb dL_law_950 ?_
  refine va_sld hx hb hX hbl hbA hB1.2.2.2.1 (zL_idx hL e3 (k := 2) (by decide) hi) dL_law_951 ?_
  refine zz_lawi S hZ.2.2.2.1 hB2 hB1 (fun c c' h h' e => hZ.2.2.2.2 c' c h' h e.symm) (As := [.int (xs (x3 + nI 1).toNatClampNeg), .int (xs (x3 + nI 2).toNatClampNeg)]) (b := 0) (c_X12_addGuide l D cy TM hZ.2.2.2.1 adM N σM _ 0 (xs (x3 + nI 1).toNatClampNeg) (xs (x3 + nI 2).toNatClampNeg) r σ2 h2) (cwV 2 hts (gV (fun _ h => h) wd_1053 wd_1054 wd_1055 wd_572 wd_1056) rfl rfl rfl (by decide +kernel) ⟨Nat.le_of_ble_eq_true rfl, Nat.le_of_ble_eq_true rfl⟩) (F := TX12) (NF := 24) 12 rfl (by decide) (k_X12_addGuide TM N σM 0 (xs (x3 + nI 1).toNatClampNeg) (xs (x3 + nI 2).toNatClampNeg) _ h2) rfl hl.1 rfl (Nat.le_of_ble_eq_true rfl) dL_law_952 ⟨Nat.le_of_ble_eq_true rfl, Nat.le_of_ble_eq_true rfl⟩ (fun H locs hB2 hB1 => ?_)
  refine lv_icmp_eq (tgt := 1095) hx hb dL_law_955 (by decide) (fun _ => ?_) (fun h => absurd rfl h)
  exact kk σ1 σ2 H locs hI ⟨hB1, hB2, hZ.2.2⟩
set_option maxHeartbeats 4000000 in
set_option maxRecDepth 100000 in
theorem law_c24 {p : Program} {l : Launch} {e : Env} {s : State} {m : MethodId} {below : List Frame} {meth : Method} {c : Code} {b L : Nat} {xs : Nat → Int32} (hL : L ≤ 3072) (C0 : lw_At p s m meth c b L xs) {D : va_G} {cy : Nat → ClassId} {adC adM : Nat → Nat} {σC σM : zS} {H : Heap} {locs : List Loc} {TC TM : zT} {INV : zS → zS → Prop} {N : Nat} (hop : zAg INV (f_X11_clearGuides TC N σC 0) (f_X12_clearGuides TM N σM 0)) {i : Nat} (hi : i + 6 ≤ L) {x3 : Int32} (e3 : x3 = nI i) (hZ : zLL TC TM D cy adC adM σC σM H locs s) {ls : Array Slot} (hl : lv_has ls 4 [(3, .int x3), (2, .ref (adM 0)), (1, .ref (adC 0)), (0, .ref b)])
    (kk : ∀ (σ1 σ2 : zS) (H : Heap) (locs : List Loc), INV σ1 σ2 → zLL TC TM D cy adC adM σ1 σ2 H locs s → W p l e room_1 s m #[Value.ref b] below meth c H locs 390 5709 (lw_Z below #[Value.ref b] s) (F0 m 1095 ls [])) : W p l e room_1 s m #[Value.ref b] below meth c H locs 390 5709 (lw_Z below #[Value.ref b] s) (F0 m 960 ls []) := by
  obtain ⟨hx, hb, hr, hml, hown, hts0, hX, hbl, hlocks, hgv⟩ := C0
  have hts : ∀ w ∈ WA, w.before #[Value.ref b] s = true := fun w h => hts0 w (wA_tbl w h)
  have S : CallFix p m c code 4 s #[Value.ref b] WA RL := ⟨hx, hb, hml, hown, hts⟩
  have hbA : ¬ zAL s b := Nat.not_le.mpr hbl
  refine lv_aload_n hx hb dL_law_960 rfl (lv_at hl 2 rfl) ?_
  obtain ⟨r, σ1, σ2, h1, h2, hI⟩ := hop 
  refine zz_lawi S hZ.2.2.1 hZ.1 hZ.2.1 hZ.2.2.2.2 (As := []) (b := 0) (c_X11_clearGuides l D cy TC hZ.2.2.1 adC N σC _ 0  r σ1 h1) (cwV 0 hts (gV (fun _ h => h) wd_1057 wd_1058 wd_1059 wd_102 wd_1060) rfl rfl rfl (by decide +kernel) ⟨Nat.le_of_ble_eq_true rfl, Nat.le_of_ble_eq_true rfl⟩) (F := TX11) (NF := 5) 11 rfl (by decide) (k_X11_clearGuides TC N σC 0  _ h1) rfl hl.1 rfl (Nat.le_of_ble_eq_true rfl) dL_law_961 ⟨Nat.le_of_ble_eq_true rfl, Nat.le_of_ble_eq_true rfl⟩ (fun H locs hB1 hB2 => ?_)
  refine lv_aload_n hx hb dL_law_964 rfl (lv_at hl 1 rfl) ?_
  refine zz_lawi S hZ.2.2.2.1 hB2 hB1 (fun c c' h h' e => hZ.2.2.2.2 c' c h' h e.symm) (As := []) (b := 0) (c_X12_clearGuides l D cy TM hZ.2.2.2.1 adM N σM _ 0  r σ2 h2) (cwV 0 hts (gV (fun _ h => h) wd_1061 wd_1062 wd_1063 wd_572 wd_1064) rfl rfl rfl (by decide +kernel) ⟨Nat.le_of_ble_eq_true rfl, Nat.le_of_ble_eq_true rfl⟩) (F := TX12) (NF := 24) 12 rfl (by decide) (k_X12_clearGuides TM N σM 0  _ h2) rfl hl.1 rfl (Nat.le_of_ble_eq_true rfl) dL_law_965 ⟨Nat.le_of_ble_eq_true rfl, Nat.le_of_ble_eq_true rfl⟩ (fun H locs hB2 hB1 => ?_)
  refine lv_icmp_eq (tgt := 1095) hx hb dL_law_968 (by decide) (fun _ => ?_) (fun h => absurd rfl h)
  exact kk σ1 σ2 H locs hI ⟨hB1, hB2, hZ.2.2⟩
set_option maxHeartbeats 4000000 in
set_option maxRecDepth 100000 in
theorem law_c25 {p : Program} {l : Launch} {e : Env} {s : State} {m : MethodId} {below : List Frame} {meth : Method} {c : Code} {b L : Nat} {xs : Nat → Int32} (hL : L ≤ 3072) (C0 : lw_At p s m meth c b L xs) {D : va_G} {cy : Nat → ClassId} {adC adM : Nat → Nat} {σC σM : zS} {H : Heap} {locs : List Loc} {TC TM : zT} {INV : zS → zS → Prop} {N : Nat} (hop : ∀ x0 : Int32, zAg INV (f_X11_setGrid TC N σC 0 x0) (f_X12_setGrid TM N σM 0 x0)) {i : Nat} (hi : i + 6 ≤ L) {x3 : Int32} (e3 : x3 = nI i) (hZ : zLL TC TM D cy adC adM σC σM H locs s) {ls : Array Slot} (hl : lv_has ls 4 [(3, .int x3), (2, .ref (adM 0)), (1, .ref (adC 0)), (0, .ref b)])
    (kk : ∀ (σ1 σ2 : zS) (H : Heap) (locs : List Loc), INV σ1 σ2 → zLL TC TM D cy adC adM σ1 σ2 H locs s → W p l e room_1 s m #[Value.ref b] below meth c H locs 390 5709 (lw_Z below #[Value.ref b] s) (F0 m 1095 ls [])) : W p l e room_1 s m #[Value.ref b] below meth c H locs 390 5709 (lw_Z below #[Value.ref b] s) (F0 m 973 ls []) := by
  obtain ⟨hx, hb, hr, hml, hown, hts0, hX, hbl, hlocks, hgv⟩ := C0
  have hts : ∀ w ∈ WA, w.before #[Value.ref b] s = true := fun w h => hts0 w (wA_tbl w h)
  have S : CallFix p m c code 4 s #[Value.ref b] WA RL := ⟨hx, hb, hml, hown, hts⟩
  have hbA : ¬ zAL s b := Nat.not_le.mpr hbl
  refine lv_aload_n hx hb dL_law_973 rfl (lv_at hl 2 rfl) ?_
  refine lv_aload_n hx hb dL_law_974 rfl (lv_at hl 3 rfl) ?_
  refine lv_iload_n hx hb dL_law_975 rfl (lv_at hl 0 rfl) ?_
  refine lv_iconst (v := nI 1) hx hb dL_law_976 (by decide) ?_
  refine lv_iadd hx hb dL_law_977 ?_
  refine va_sld hx hb hX hbl hbA hZ.1.2.2.2.1 (zL_idx hL e3 (k := 1) (by decide) hi) dL_law_978 ?_
  obtain ⟨r, σ1, σ2, h1, h2, hI⟩ := hop (xs (x3 + nI 1).toNatClampNeg)
  refine zz_lawi S hZ.2.2.1 hZ.1 hZ.2.1 hZ.2.2.2.2 (As := [.int (xs (x3 + nI 1).toNatClampNeg)]) (b := 0) (c_X11_setGrid l D cy TC hZ.2.2.1 adC N σC _ 0 (xs (x3 + nI 1).toNatClampNeg) r σ1 h1) (cwV 1 hts (gV (fun _ h => h) wd_1065 wd_1066 wd_1067 wd_102 wd_1068) rfl rfl rfl (by decide +kernel) ⟨Nat.le_of_ble_eq_true rfl, Nat.le_of_ble_eq_true rfl⟩) (F := TX11) (NF := 5) 11 rfl (by decide) (k_X11_setGrid TC N σC 0 (xs (x3 + nI 1).toNatClampNeg) _ h1) rfl hl.1 rfl (Nat.le_of_ble_eq_true rfl) dL_law_979 ⟨Nat.le_of_ble_eq_true rfl, Nat.le_of_ble_eq_true rfl⟩ (fun H locs hB1 hB2 => ?_)
  refine lv_aload_n hx hb dL_law_982 rfl (lv_at hl 1 rfl) ?_
  refine lv_aload_n hx hb dL_law_983 rfl (lv_at hl 3 rfl) ?_
  refine lv_iload_n hx hb dL_law_984 rfl (lv_at hl 0 rfl) ?_
  refine lv_iconst (v := nI 1) hx hb dL_law_985 (by decide) ?_
  refine lv_iadd hx hb dL_law_986 ?_
  refine va_sld hx hb hX hbl hbA hB1.2.2.2.1 (zL_idx hL e3 (k := 1) (by decide) hi) dL_law_987 ?_
  refine zz_lawi S hZ.2.2.2.1 hB2 hB1 (fun c c' h h' e => hZ.2.2.2.2 c' c h' h e.symm) (As := [.int (xs (x3 + nI 1).toNatClampNeg)]) (b := 0) (c_X12_setGrid l D cy TM hZ.2.2.2.1 adM N σM _ 0 (xs (x3 + nI 1).toNatClampNeg) r σ2 h2) (cwV 1 hts (gV (fun _ h => h) wd_1069 wd_1070 wd_1071 wd_572 wd_1072) rfl rfl rfl (by decide +kernel) ⟨Nat.le_of_ble_eq_true rfl, Nat.le_of_ble_eq_true rfl⟩) (F := TX12) (NF := 24) 12 rfl (by decide) (k_X12_setGrid TM N σM 0 (xs (x3 + nI 1).toNatClampNeg) _ h2) rfl hl.1 rfl (Nat.le_of_ble_eq_true rfl) dL_law_988 ⟨Nat.le_of_ble_eq_true rfl, Nat.le_of_ble_eq_true rfl⟩ (fun H locs hB2 hB1 => ?_)
  refine lv_icmp_eq (tgt := 1095) hx hb dL_law_991 (by decide) (fun _ => ?_) (fun h => absurd rfl h)
  exact kk σ1 σ2 H locs hI ⟨hB1, hB2, hZ.2.2⟩
set_option maxHeartbeats 4000000 in
set_option maxRecDepth 100000 in
theorem law_c26 {p : Program} {l : Launch} {e : Env} {s : State} {m : MethodId} {below : List Frame} {meth : Method} {c : Code} {b L : Nat} {xs : Nat → Int32} (hL : L ≤ 3072) (C0 : lw_At p s m meth c b L xs) {D : va_G} {cy : Nat → ClassId} {adC adM : Nat → Nat} {σC σM : zS} {H : Heap} {locs : List Loc} {TC TM : zT} {INV : zS → zS → Prop} {N : Nat} (hop : ∀ x0 : Int32, zAg INV (f_X11_setTolerance TC N σC 0 x0) (f_X12_setTolerance TM N σM 0 x0)) {i : Nat} (hi : i + 6 ≤ L) {x3 : Int32} (e3 : x3 = nI i) (hZ : zLL TC TM D cy adC adM σC σM H locs s) {ls : Array Slot} (hl : lv_has ls 4 [(3, .int x3), (2, .ref (adM 0)), (1, .ref (adC 0)), (0, .ref b)])
    (kk : ∀ (σ1 σ2 : zS) (H : Heap) (locs : List Loc), INV σ1 σ2 → zLL TC TM D cy adC adM σ1 σ2 H locs s → W p l e room_1 s m #[Value.ref b] below meth c H locs 390 5709 (lw_Z below #[Value.ref b] s) (F0 m 1095 ls [])) : W p l e room_1 s m #[Value.ref b] below meth c H locs 390 5709 (lw_Z below #[Value.ref b] s) (F0 m 996 ls []) := by
  obtain ⟨hx, hb, hr, hml, hown, hts0, hX, hbl, hlocks, hgv⟩ := C0
  have hts : ∀ w ∈ WA, w.before #[Value.ref b] s = true := fun w h => hts0 w (wA_tbl w h)
  have S : CallFix p m c code 4 s #[Value.ref b] WA RL := ⟨hx, hb, hml, hown, hts⟩
  have hbA : ¬ zAL s b := Nat.not_le.mpr hbl
  refine lv_aload_n hx hb dL_law_996 rfl (lv_at hl 2 rfl) ?_
  refine lv_aload_n hx hb dL_law_997 rfl (lv_at hl 3 rfl) ?_
  refine lv_iload_n hx hb dL_law_998 rfl (lv_at hl 0 rfl) ?_
  refine lv_iconst (v := nI 1) hx hb dL_law_999 (by decide) ?_
  refine lv_iadd hx hb dL_law_1000 ?_
  refine va_sld hx hb hX hbl hbA hZ.1.2.2.2.1 (zL_idx hL e3 (k := 1) (by decide) hi) dL_law_1001 ?_
  obtain ⟨r, σ1, σ2, h1, h2, hI⟩ := hop (xs (x3 + nI 1).toNatClampNeg)
  refine zz_lawi S hZ.2.2.1 hZ.1 hZ.2.1 hZ.2.2.2.2 (As := [.int (xs (x3 + nI 1).toNatClampNeg)]) (b := 0) (c_X11_setTolerance l D cy TC hZ.2.2.1 adC N σC _ 0 (xs (x3 + nI 1).toNatClampNeg) r σ1 h1) (cwV 1 hts (gV (fun _ h => h) wd_1073 wd_1074 wd_1075 wd_102 wd_1076) rfl rfl rfl (by decide +kernel) ⟨Nat.le_of_ble_eq_true rfl, Nat.le_of_ble_eq_true rfl⟩) (F := TX11) (NF := 5) 11 rfl (by decide) (k_X11_setTolerance TC N σC 0 (xs (x3 + nI 1).toNatClampNeg) _ h1) rfl hl.1 rfl (Nat.le_of_ble_eq_true rfl) dL_law_1002 ⟨Nat.le_of_ble_eq_true rfl, Nat.le_of_ble_eq_true rfl⟩ (fun H locs hB1 hB2 => ?_)
  refine lv_aload_n hx hb dL_law_1005 rfl (lv_at hl 1 rfl) ?_
  refine lv_aload_n hx hb dL_law_1006 rfl (lv_at hl 3 rfl) ?_
  refine lv_iload_n hx hb dL_law_1007 rfl (lv_at hl 0 rfl) ?_
  refine lv_iconst (v := nI 1) hx hb dL_law_1008 (by decide) ?_
  refine lv_iadd hx hb dL_law_1009 ?_
  refine va_sld hx hb hX hbl hbA hB1.2.2.2.1 (zL_idx hL e3 (k := 1) (by decide) hi) dL_law_1010 ?_
  refine zz_lawi S hZ.2.2.2.1 hB2 hB1 (fun c c' h h' e => hZ.2.2.2.2 c' c h' h e.symm) (As := [.int (xs (x3 + nI 1).toNatClampNeg)]) (b := 0) (c_X12_setTolerance l D cy TM hZ.2.2.2.1 adM N σM _ 0 (xs (x3 + nI 1).toNatClampNeg) r σ2 h2) (cwV 1 hts (gV (fun _ h => h) wd_1077 wd_1078 wd_1079 wd_572 wd_1080) rfl rfl rfl (by decide +kernel) ⟨Nat.le_of_ble_eq_true rfl, Nat.le_of_ble_eq_true rfl⟩) (F := TX12) (NF := 24) 12 rfl (by decide) (k_X12_setTolerance TM N σM 0 (xs (x3 + nI 1).toNatClampNeg) _ h2) rfl hl.1 rfl (Nat.le_of_ble_eq_true rfl) dL_law_1011 ⟨Nat.le_of_ble_eq_true rfl, Nat.le_of_ble_eq_true rfl⟩ (fun H locs hB2 hB1 => ?_)
  refine lv_icmp_eq (tgt := 1095) hx hb dL_law_1014 (by decide) (fun _ => ?_) (fun h => absurd rfl h)
  exact kk σ1 σ2 H locs hI ⟨hB1, hB2, hZ.2.2⟩
set_option maxHeartbeats 4000000 in
set_option maxRecDepth 100000 in
theorem law_c27 {p : Program} {l : Launch} {e : Env} {s : State} {m : MethodId} {below : List Frame} {meth : Method} {c : Code} {b L : Nat} {xs : Nat → Int32} (hL : L ≤ 3072) (C0 : lw_At p s m meth c b L xs) {D : va_G} {cy : Nat → ClassId} {adC adM : Nat → Nat} {σC σM : zS} {H : Heap} {locs : List Loc} {TC TM : zT} {INV : zS → zS → Prop} {N : Nat} (hop : ∀ x0 : Int32, zAg INV (f_X11_type TC N σC 0 x0) (f_X12_type TM N σM 0 x0)) {i : Nat} (hi : i + 6 ≤ L) {x3 : Int32} (e3 : x3 = nI i) (hZ : zLL TC TM D cy adC adM σC σM H locs s) {ls : Array Slot} (hl : lv_has ls 4 [(3, .int x3), (2, .ref (adM 0)), (1, .ref (adC 0)), (0, .ref b)])
    (kk : ∀ (σ1 σ2 : zS) (H : Heap) (locs : List Loc), INV σ1 σ2 → zLL TC TM D cy adC adM σ1 σ2 H locs s → W p l e room_1 s m #[Value.ref b] below meth c H locs 390 5709 (lw_Z below #[Value.ref b] s) (F0 m 1095 ls [])) : W p l e room_1 s m #[Value.ref b] below meth c H locs 390 5709 (lw_Z below #[Value.ref b] s) (F0 m 1019 ls []) := by
  obtain ⟨hx, hb, hr, hml, hown, hts0, hX, hbl, hlocks, hgv⟩ := C0
  have hts : ∀ w ∈ WA, w.before #[Value.ref b] s = true := fun w h => hts0 w (wA_tbl w h)
  have S : CallFix p m c code 4 s #[Value.ref b] WA RL := ⟨hx, hb, hml, hown, hts⟩
  have hbA : ¬ zAL s b := Nat.not_le.mpr hbl
  refine lv_aload_n hx hb dL_law_1019 rfl (lv_at hl 2 rfl) ?_
  refine lv_aload_n hx hb dL_law_1020 rfl (lv_at hl 3 rfl) ?_
  refine lv_iload_n hx hb dL_law_1021 rfl (lv_at hl 0 rfl) ?_
  refine lv_iconst (v := nI 1) hx hb dL_law_1022 (by decide) ?_
  refine lv_iadd hx hb dL_law_1023 ?_
  refine va_sld hx hb hX hbl hbA hZ.1.2.2.2.1 (zL_idx hL e3 (k := 1) (by decide) hi) dL_law_1024 ?_
  obtain ⟨r, σ1, σ2, h1, h2, hI⟩ := hop (xs (x3 + nI 1).toNatClampNeg)
  refine zz_lawi S hZ.2.2.1 hZ.1 hZ.2.1 hZ.2.2.2.2 (As := [.int (xs (x3 + nI 1).toNatClampNeg)]) (b := 0) (c_X11_type l D cy TC hZ.2.2.1 adC N σC _ 0 (xs (x3 + nI 1).toNatClampNeg) r σ1 h1) (cwV 1 hts (gV (fun _ h => h) wd_1081 wd_1082 wd_1083 wd_102 wd_1084) rfl rfl rfl (by decide +kernel) ⟨Nat.le_of_ble_eq_true rfl, Nat.le_of_ble_eq_true rfl⟩) (F := TX11) (NF := 5) 11 rfl (by decide) (k_X11_type TC N σC 0 (xs (x3 + nI 1).toNatClampNeg) _ h1) rfl hl.1 rfl (Nat.le_of_ble_eq_true rfl) dL_law_1025 ⟨Nat.le_of_ble_eq_true rfl, Nat.le_of_ble_eq_true rfl⟩ (fun H locs hB1 hB2 => ?_)
  refine lv_aload_n hx hb dL_law_1028 rfl (lv_at hl 1 rfl) ?_
  refine lv_aload_n hx hb dL_law_1029 rfl (lv_at hl 3 rfl) ?_
  refine lv_iload_n hx hb dL_law_1030 rfl (lv_at hl 0 rfl) ?_
  refine lv_iconst (v := nI 1) hx hb dL_law_1031 (by decide) ?_
  refine lv_iadd hx hb dL_law_1032 ?_
  refine va_sld hx hb hX hbl hbA hB1.2.2.2.1 (zL_idx hL e3 (k := 1) (by decide) hi) dL_law_1033 ?_
  refine zz_lawi S hZ.2.2.2.1 hB2 hB1 (fun c c' h h' e => hZ.2.2.2.2 c' c h' h e.symm) (As := [.int (xs (x3 + nI 1).toNatClampNeg)]) (b := 0) (c_X12_type l D cy TM hZ.2.2.2.1 adM N σM _ 0 (xs (x3 + nI 1).toNatClampNeg) r σ2 h2) (cwV 1 hts (gV (fun _ h => h) wd_1085 wd_1086 wd_1087 wd_572 wd_1088) rfl rfl rfl (by decide +kernel) ⟨Nat.le_of_ble_eq_true rfl, Nat.le_of_ble_eq_true rfl⟩) (F := TX12) (NF := 24) 12 rfl (by decide) (k_X12_type TM N σM 0 (xs (x3 + nI 1).toNatClampNeg) _ h2) rfl hl.1 rfl (Nat.le_of_ble_eq_true rfl) dL_law_1034 ⟨Nat.le_of_ble_eq_true rfl, Nat.le_of_ble_eq_true rfl⟩ (fun H locs hB2 hB1 => ?_)
  refine lv_icmp_eq (tgt := 1095) hx hb dL_law_1037 (by decide) (fun _ => ?_) (fun h => absurd rfl h)
  exact kk σ1 σ2 H locs hI ⟨hB1, hB2, hZ.2.2⟩
set_option maxHeartbeats 4000000 in
set_option maxRecDepth 100000 in
theorem law_c28 {p : Program} {l : Launch} {e : Env} {s : State} {m : MethodId} {below : List Frame} {meth : Method} {c : Code} {b L : Nat} {xs : Nat → Int32} (hL : L ≤ 3072) (C0 : lw_At p s m meth c b L xs) {D : va_G} {cy : Nat → ClassId} {adC adM : Nat → Nat} {σC σM : zS} {H : Heap} {locs : List Loc} {TC TM : zT} {INV : zS → zS → Prop} {N : Nat} (hop : zAg INV (f_X11_clear TC N σC 0) (f_X12_clear TM N σM 0)) {i : Nat} (hi : i + 6 ≤ L) {x3 : Int32} (e3 : x3 = nI i) (hZ : zLL TC TM D cy adC adM σC σM H locs s) {ls : Array Slot} (hl : lv_has ls 4 [(3, .int x3), (2, .ref (adM 0)), (1, .ref (adC 0)), (0, .ref b)])
    (kk : ∀ (σ1 σ2 : zS) (H : Heap) (locs : List Loc), INV σ1 σ2 → zLL TC TM D cy adC adM σ1 σ2 H locs s → W p l e room_1 s m #[Value.ref b] below meth c H locs 390 5709 (lw_Z below #[Value.ref b] s) (F0 m 1095 ls [])) : W p l e room_1 s m #[Value.ref b] below meth c H locs 390 5709 (lw_Z below #[Value.ref b] s) (F0 m 1042 ls []) := by
  obtain ⟨hx, hb, hr, hml, hown, hts0, hX, hbl, hlocks, hgv⟩ := C0
  have hts : ∀ w ∈ WA, w.before #[Value.ref b] s = true := fun w h => hts0 w (wA_tbl w h)
  have S : CallFix p m c code 4 s #[Value.ref b] WA RL := ⟨hx, hb, hml, hown, hts⟩
  have hbA : ¬ zAL s b := Nat.not_le.mpr hbl
  refine lv_aload_n hx hb dL_law_1042 rfl (lv_at hl 2 rfl) ?_
  obtain ⟨r, σ1, σ2, h1, h2, hI⟩ := hop 
  refine zz_lawi S hZ.2.2.1 hZ.1 hZ.2.1 hZ.2.2.2.2 (As := []) (b := 0) (c_X11_clear l D cy TC hZ.2.2.1 adC N σC _ 0  r σ1 h1) (cwV 0 hts (gV (fun _ h => h) wd_1089 wd_1090 wd_1091 wd_102 wd_1092) rfl rfl rfl (by decide +kernel) ⟨Nat.le_of_ble_eq_true rfl, Nat.le_of_ble_eq_true rfl⟩) (F := TX11) (NF := 5) 11 rfl (by decide) (k_X11_clear TC N σC 0  _ h1) rfl hl.1 rfl (Nat.le_of_ble_eq_true rfl) dL_law_1043 ⟨Nat.le_of_ble_eq_true rfl, Nat.le_of_ble_eq_true rfl⟩ (fun H locs hB1 hB2 => ?_)
  refine lv_aload_n hx hb dL_law_1046 rfl (lv_at hl 1 rfl) ?_
  refine zz_lawi S hZ.2.2.2.1 hB2 hB1 (fun c c' h h' e => hZ.2.2.2.2 c' c h' h e.symm) (As := []) (b := 0) (c_X12_clear l D cy TM hZ.2.2.2.1 adM N σM _ 0  r σ2 h2) (cwV 0 hts (gV (fun _ h => h) wd_1093 wd_1094 wd_1095 wd_572 wd_1096) rfl rfl rfl (by decide +kernel) ⟨Nat.le_of_ble_eq_true rfl, Nat.le_of_ble_eq_true rfl⟩) (F := TX12) (NF := 24) 12 rfl (by decide) (k_X12_clear TM N σM 0  _ h2) rfl hl.1 rfl (Nat.le_of_ble_eq_true rfl) dL_law_1047 ⟨Nat.le_of_ble_eq_true rfl, Nat.le_of_ble_eq_true rfl⟩ (fun H locs hB2 hB1 => ?_)
  refine lv_icmp_eq (tgt := 1095) hx hb dL_law_1050 (by decide) (fun _ => ?_) (fun h => absurd rfl h)
  exact kk σ1 σ2 H locs hI ⟨hB1, hB2, hZ.2.2⟩
set_option maxHeartbeats 4000000 in
set_option maxRecDepth 100000 in
theorem law_c29 {p : Program} {l : Launch} {e : Env} {s : State} {m : MethodId} {below : List Frame} {meth : Method} {c : Code} {b L : Nat} {xs : Nat → Int32} (hL : L ≤ 3072) (C0 : lw_At p s m meth c b L xs) {D : va_G} {cy : Nat → ClassId} {adC adM : Nat → Nat} {σC σM : zS} {H : Heap} {locs : List Loc} {TC TM : zT} {INV : zS → zS → Prop} {N : Nat} (hop : zAg INV (f_X11_read TC N σC 0) (f_X12_read TM N σM 0)) {i : Nat} (hi : i + 6 ≤ L) {x3 : Int32} (e3 : x3 = nI i) (hZ : zLL TC TM D cy adC adM σC σM H locs s) {ls : Array Slot} (hl : lv_has ls 4 [(3, .int x3), (2, .ref (adM 0)), (1, .ref (adC 0)), (0, .ref b)])
    (kk : ∀ (σ1 σ2 : zS) (H : Heap) (locs : List Loc), INV σ1 σ2 → zLL TC TM D cy adC adM σ1 σ2 H locs s → W p l e room_1 s m #[Value.ref b] below meth c H locs 390 5709 (lw_Z below #[Value.ref b] s) (F0 m 1095 ls [])) : W p l e room_1 s m #[Value.ref b] below meth c H locs 390 5709 (lw_Z below #[Value.ref b] s) (F0 m 1055 ls []) := by
  obtain ⟨hx, hb, hr, hml, hown, hts0, hX, hbl, hlocks, hgv⟩ := C0
  have hts : ∀ w ∈ WA, w.before #[Value.ref b] s = true := fun w h => hts0 w (wA_tbl w h)
  have S : CallFix p m c code 4 s #[Value.ref b] WA RL := ⟨hx, hb, hml, hown, hts⟩
  have hbA : ¬ zAL s b := Nat.not_le.mpr hbl
  refine lv_aload_n hx hb dL_law_1055 rfl (lv_at hl 2 rfl) ?_
  obtain ⟨r, σ1, σ2, h1, h2, hI⟩ := hop 
  refine zz_lawi S hZ.2.2.1 hZ.1 hZ.2.1 hZ.2.2.2.2 (As := []) (b := 0) (c_X11_read l D cy TC hZ.2.2.1 adC N σC _ 0  r σ1 h1) (cwV 0 hts (gV (fun _ h => h) wd_1097 wd_1098 wd_1099 wd_102 wd_1100) rfl rfl rfl (by decide +kernel) ⟨Nat.le_of_ble_eq_true rfl, Nat.le_of_ble_eq_true rfl⟩) (F := TX11) (NF := 5) 11 rfl (by decide) (k_X11_read TC N σC 0  _ h1) rfl hl.1 rfl (Nat.le_of_ble_eq_true rfl) dL_law_1056 ⟨Nat.le_of_ble_eq_true rfl, Nat.le_of_ble_eq_true rfl⟩ (fun H locs hB1 hB2 => ?_)
  refine lv_aload_n hx hb dL_law_1059 rfl (lv_at hl 1 rfl) ?_
  refine zz_lawi S hZ.2.2.2.1 hB2 hB1 (fun c c' h h' e => hZ.2.2.2.2 c' c h' h e.symm) (As := []) (b := 0) (c_X12_read l D cy TM hZ.2.2.2.1 adM N σM _ 0  r σ2 h2) (cwV 0 hts (gV (fun _ h => h) wd_1101 wd_1102 wd_1103 wd_572 wd_1104) rfl rfl rfl (by decide +kernel) ⟨Nat.le_of_ble_eq_true rfl, Nat.le_of_ble_eq_true rfl⟩) (F := TX12) (NF := 24) 12 rfl (by decide) (k_X12_read TM N σM 0  _ h2) rfl hl.1 rfl (Nat.le_of_ble_eq_true rfl) dL_law_1060 ⟨Nat.le_of_ble_eq_true rfl, Nat.le_of_ble_eq_true rfl⟩ (fun H locs hB2 hB1 => ?_)
  refine lv_icmp_eq (tgt := 1095) hx hb dL_law_1063 (by decide) (fun _ => ?_) (fun h => absurd rfl h)
  exact kk σ1 σ2 H locs hI ⟨hB1, hB2, hZ.2.2⟩
set_option maxHeartbeats 4000000 in
set_option maxRecDepth 100000 in
theorem law_c30 {p : Program} {l : Launch} {e : Env} {s : State} {m : MethodId} {below : List Frame} {meth : Method} {c : Code} {b L : Nat} {xs : Nat → Int32} (hL : L ≤ 3072) (C0 : lw_At p s m meth c b L xs) {D : va_G} {cy : Nat → ClassId} {adC adM : Nat → Nat} {σC σM : zS} {H : Heap} {locs : List Loc} {TC TM : zT} {INV : zS → zS → Prop} {N : Nat} (hop : zAg INV (f_X11_undo TC N σC 0) (f_X12_undo TM N σM 0)) {i : Nat} (hi : i + 6 ≤ L) {x3 : Int32} (e3 : x3 = nI i) (hZ : zLL TC TM D cy adC adM σC σM H locs s) {ls : Array Slot} (hl : lv_has ls 4 [(3, .int x3), (2, .ref (adM 0)), (1, .ref (adC 0)), (0, .ref b)])
    (kk : ∀ (σ1 σ2 : zS) (H : Heap) (locs : List Loc), INV σ1 σ2 → zLL TC TM D cy adC adM σ1 σ2 H locs s → W p l e room_1 s m #[Value.ref b] below meth c H locs 390 5709 (lw_Z below #[Value.ref b] s) (F0 m 1095 ls [])) : W p l e room_1 s m #[Value.ref b] below meth c H locs 390 5709 (lw_Z below #[Value.ref b] s) (F0 m 1068 ls []) := by
  obtain ⟨hx, hb, hr, hml, hown, hts0, hX, hbl, hlocks, hgv⟩ := C0
  have hts : ∀ w ∈ WA, w.before #[Value.ref b] s = true := fun w h => hts0 w (wA_tbl w h)
  have S : CallFix p m c code 4 s #[Value.ref b] WA RL := ⟨hx, hb, hml, hown, hts⟩
  have hbA : ¬ zAL s b := Nat.not_le.mpr hbl
  refine lv_aload_n hx hb dL_law_1068 rfl (lv_at hl 2 rfl) ?_
  obtain ⟨r, σ1, σ2, h1, h2, hI⟩ := hop 
  refine zz_lawi S hZ.2.2.1 hZ.1 hZ.2.1 hZ.2.2.2.2 (As := []) (b := 0) (c_X11_undo l D cy TC hZ.2.2.1 adC N σC _ 0  r σ1 h1) (cwV 0 hts (gV (fun _ h => h) wd_1105 wd_1106 wd_1107 wd_102 wd_1108) rfl rfl rfl (by decide +kernel) ⟨Nat.le_of_ble_eq_true rfl, Nat.le_of_ble_eq_true rfl⟩) (F := TX11) (NF := 5) 11 rfl (by decide) (k_X11_undo TC N σC 0  _ h1) rfl hl.1 rfl (Nat.le_of_ble_eq_true rfl) dL_law_1069 ⟨Nat.le_of_ble_eq_true rfl, Nat.le_of_ble_eq_true rfl⟩ (fun H locs hB1 hB2 => ?_)
  refine lv_aload_n hx hb dL_law_1072 rfl (lv_at hl 1 rfl) ?_
  refine zz_lawi S hZ.2.2.2.1 hB2 hB1 (fun c c' h h' e => hZ.2.2.2.2 c' c h' h e.symm) (As := []) (b := 0) (c_X12_undo l D cy TM hZ.2.2.2.1 adM N σM _ 0  r σ2 h2) (cwV 0 hts (gV (fun _ h => h) wd_1109 wd_1110 wd_1111 wd_572 wd_1112) rfl rfl rfl (by decide +kernel) ⟨Nat.le_of_ble_eq_true rfl, Nat.le_of_ble_eq_true rfl⟩) (F := TX12) (NF := 24) 12 rfl (by decide) (k_X12_undo TM N σM 0  _ h2) rfl hl.1 rfl (Nat.le_of_ble_eq_true rfl) dL_law_1073 ⟨Nat.le_of_ble_eq_true rfl, Nat.le_of_ble_eq_true rfl⟩ (fun H locs hB2 hB1 => ?_)
  refine lv_icmp_eq (tgt := 1095) hx hb dL_law_1076 (by decide) (fun _ => ?_) (fun h => absurd rfl h)
  exact kk σ1 σ2 H locs hI ⟨hB1, hB2, hZ.2.2⟩
set_option maxHeartbeats 4000000 in
set_option maxRecDepth 100000 in
theorem law_c31 {p : Program} {l : Launch} {e : Env} {s : State} {m : MethodId} {below : List Frame} {meth : Method} {c : Code} {b L : Nat} {xs : Nat → Int32} (hL : L ≤ 3072) (C0 : lw_At p s m meth c b L xs) {D : va_G} {cy : Nat → ClassId} {adC adM : Nat → Nat} {σC σM : zS} {H : Heap} {locs : List Loc} {TC TM : zT} {INV : zS → zS → Prop} {N : Nat} (hop : zAgL INV (f_X11_fingerprint TC N σC 0) (f_X12_fingerprint TM N σM 0)) {i : Nat} (hi : i + 6 ≤ L) {x3 : Int32} (e3 : x3 = nI i) (hZ : zLL TC TM D cy adC adM σC σM H locs s) {ls : Array Slot} (hl : lv_has ls 4 [(3, .int x3), (2, .ref (adM 0)), (1, .ref (adC 0)), (0, .ref b)])
    (kk : ∀ (σ1 σ2 : zS) (H : Heap) (locs : List Loc), INV σ1 σ2 → zLL TC TM D cy adC adM σ1 σ2 H locs s → W p l e room_1 s m #[Value.ref b] below meth c H locs 390 5709 (lw_Z below #[Value.ref b] s) (F0 m 1095 ls [])) : W p l e room_1 s m #[Value.ref b] below meth c H locs 390 5709 (lw_Z below #[Value.ref b] s) (F0 m 1081 ls []) := by
  obtain ⟨hx, hb, hr, hml, hown, hts0, hX, hbl, hlocks, hgv⟩ := C0
  have hts : ∀ w ∈ WA, w.before #[Value.ref b] s = true := fun w h => hts0 w (wA_tbl w h)
  have S : CallFix p m c code 4 s #[Value.ref b] WA RL := ⟨hx, hb, hml, hown, hts⟩
  have hbA : ¬ zAL s b := Nat.not_le.mpr hbl
  refine lv_aload_n hx hb dL_law_1081 rfl (lv_at hl 2 rfl) ?_
  obtain ⟨r, σ1, σ2, h1, h2, hI⟩ := hop 
  refine zz_lawl S hZ.2.2.1 hZ.1 hZ.2.1 hZ.2.2.2.2 (As := []) (b := 0) (c_X11_fingerprint l D cy TC hZ.2.2.1 adC N σC _ 0  r σ1 h1) (cwV 0 hts (gV (fun _ h => h) wd_1113 wd_1114 wd_1115 wd_102 wd_1116) rfl rfl rfl (by decide +kernel) ⟨Nat.le_of_ble_eq_true rfl, Nat.le_of_ble_eq_true rfl⟩) (F := TX11) (NF := 5) 11 rfl (by decide) (k_X11_fingerprint TC N σC 0  _ h1) rfl hl.1 rfl (Nat.le_of_ble_eq_true rfl) dL_law_1082 ⟨Nat.le_of_ble_eq_true rfl, Nat.le_of_ble_eq_true rfl⟩ (fun H locs hB1 hB2 => ?_)
  refine lv_aload_n hx hb dL_law_1085 rfl (lv_at hl 1 rfl) ?_
  refine zz_lawl S hZ.2.2.2.1 hB2 hB1 (fun c c' h h' e => hZ.2.2.2.2 c' c h' h e.symm) (As := []) (b := 0) (c_X12_fingerprint l D cy TM hZ.2.2.2.1 adM N σM _ 0  r σ2 h2) (cwV 0 hts (gV (fun _ h => h) wd_1117 wd_1118 wd_1119 wd_572 wd_1120) rfl rfl rfl (by decide +kernel) ⟨Nat.le_of_ble_eq_true rfl, Nat.le_of_ble_eq_true rfl⟩) (F := TX12) (NF := 24) 12 rfl (by decide) (k_X12_fingerprint TM N σM 0  _ h2) rfl hl.1 rfl (Nat.le_of_ble_eq_true rfl) dL_law_1086 ⟨Nat.le_of_ble_eq_true rfl, Nat.le_of_ble_eq_true rfl⟩ (fun H locs hB2 hB1 => ?_)
  refine W.lcmp hx hb dL_law_1089 ?_
  refine lv_if_eq (tgt := 1095) hx hb dL_law_1090 (by decide) (fun _ => ?_) (fun h => absurd (zL_cmp r) h)
  exact kk σ1 σ2 H locs hI ⟨hB1, hB2, hZ.2.2⟩
