-- room of the law: frames 11, locals 258, cells 85, slots 4963
set_option maxHeartbeats 40000000 in
set_option maxRecDepth 100000 in
theorem law_loop {p : Program} {l : Launch} {e : Env} {s : State} {m : MethodId} {below : List Frame} {meth : Method} {c : Code} {D : va_G} {K : Nat → ClassId} {g : Nat → Nat → Nat} {aM : Nat → Nat} {b nL : Nat} {xs : Nat → Int32} {A : Nat → Prop} (X : CallFix p m c cL_law 4 s #[Value.ref b] wsL_law RL) (hr : meth.sig.returnType = ret) (hlk : meth.locks = false) (hK : va_K D vwCl (zTys K) s) (hN : zN K A s) (hA : ∀ q : Nat, s.heap.size ≤ q → A q) (hAs : ∀ q : Nat, A q → s.heap.size ≤ q) (hX : va_X b nL xs s s.heap) (hbl : b < s.heap.size) (hbA : ¬ A b) : ∀ (n : Nat) (n18_0 : Int32) (q18_Z : Nat → St) (q18_ZL : Nat → Lt) (q18_M : St), fL_law_18 nL xs n n18_0 q18_Z q18_ZL q18_M = some 1 → ∀ (H : Heap) (locs : List Loc), va_P D vwCl (wbALL K g q18_Z q18_ZL ++ (wbX9 K aM q18_M)) H → va_D A (wbALL K g q18_Z q18_ZL ++ (wbX9 K aM q18_M)) → va_S A s.heap H locs → ∀ (ls : Array Slot), lv_has ls 4 [(0, .ref b), (1, .ref (g 0 0)), (2, .ref (aM 0)), (3, .int n18_0)] → W p l e room_1 s m #[Value.ref b] below meth c H locs 85 4963 (lw_Z below #[Value.ref b] s) (F0 m 18 ls []) := by
  intro n
  induction n with
  | zero =>
    intro n18_0 q18_Z q18_ZL q18_M hf
    rw [fL_law_18] at hf
    cases hf
  | succ n ih =>
    intro n18_0 q18_Z q18_ZL q18_M hf H locs hP hD hS ls hl
    rw [fL_law_18] at hf
    refine lv_iload_n X.1 X.2.1 dL_law_18 rfl (lv_at hl 3 rfl) ?_
    refine lv_aload_n X.1 X.2.1 dL_law_19 rfl (lv_at hl 0 rfl) ?_
    refine va_slen X.1 X.2.1 hX hbl hbA hS dL_law_20 ?_
    refine lv_bipush (v := 6) X.1 X.2.1 dL_law_21 (by decide) ?_
    refine lv_isub X.1 X.2.1 dL_law_23 ?_
    refine lv_icmp_gt (tgt := 1140) X.1 X.2.1 dL_law_24 (by decide) (fun c1 => ?_) (fun c1 => ?_)
    · have hf := ite_t hf c1
      refine lv_iconst (v := 1) X.1 X.2.1 dL_law_1140 (by decide) ?_
      refine va_forget (fun q hq => hAs _ (hS.2.2 q hq)) ?_
      refine W.widen (k := 600000) (n := 7302250) (Nat.le_of_ble_eq_true rfl) (Nat.le_of_ble_eq_true rfl) ?_
      exact lw_ret X.1 X.2.1 hr hlk dL_law_1141
    · have hf := ite_f hf c1
      refine lv_aload_n X.1 X.2.1 dL_law_27 rfl (lv_at hl 0 rfl) ?_
      refine lv_iload_n X.1 X.2.1 dL_law_28 rfl (lv_at hl 3 rfl) ?_
      obtain ⟨hi2, hf⟩ := chk_e hf
      obtain ⟨v3, ev3, hf⟩ := stp_e hf
      refine va_sld X.1 X.2.1 hX hbl hbA hS hi2 dL_law_29 ?_
      refine z_top ev3 ?_
      refine lv_bipush (v := 31) X.1 X.2.1 dL_law_30 (by decide) ?_
      refine lv_iand X.1 X.2.1 dL_law_32 ?_
      by_cases c4 : (v3 &&& 31) = 0
      · have hf := ite_t hf c4
        refine lv_tableIn (tgt := 176) X.1 X.2.1 dL_law_33 (by rw [c4]; decide) (by rw [c4]; decide) (by rw [c4]; rfl) (by decide) ?_
        refine lv_aload_n X.1 X.2.1 dL_law_176 rfl (lv_at hl 1 rfl) ?_
        refine lv_aload_n X.1 X.2.1 dL_law_177 rfl (lv_at hl 0 rfl) ?_
        refine lv_iload_n X.1 X.2.1 dL_law_178 rfl (lv_at hl 3 rfl) ?_
        refine lv_iconst (v := 1) X.1 X.2.1 dL_law_179 (by decide) ?_
        refine lv_iadd X.1 X.2.1 dL_law_180 ?_
        obtain ⟨hi5, hf⟩ := chk_e hf
        obtain ⟨v6, ev6, hf⟩ := stp_e hf
        refine va_sld X.1 X.2.1 hX hbl hbA hS hi5 dL_law_181 ?_
        refine z_top ev6 ?_
        refine lv_aload_n X.1 X.2.1 dL_law_182 rfl (lv_at hl 0 rfl) ?_
        refine lv_iload_n X.1 X.2.1 dL_law_183 rfl (lv_at hl 3 rfl) ?_
        refine lv_iconst (v := 2) X.1 X.2.1 dL_law_184 (by decide) ?_
        refine lv_iadd X.1 X.2.1 dL_law_185 ?_
        obtain ⟨hi7, hf⟩ := chk_e hf
        obtain ⟨v8, ev8, hf⟩ := stp_e hf
        refine va_sld X.1 X.2.1 hX hbl hbA hS hi7 dL_law_186 ?_
        refine z_top ev8 ?_
        obtain ⟨r9, z10, hc11, hf⟩ := bd2_e hf
        refine z_V (n := 2) (As := [.int v6, .int v8]) (rest := []) (ci := 8) (q0 := 0) X hK hN (kX8_type l D K g q18_Z q18_ZL _ v6 v8 r9 z10 hc11) (bw_VL W7_22 W7_23 W8_0 W1_2 W8_1) rfl ⟨rfl, rfl⟩ (by decide +kernel) rfl ⟨Nat.le_of_ble_eq_true rfl, Nat.le_of_ble_eq_true rfl⟩ hP.lef hD.lef rfl rfl (zj_left hP hD hS hA) hS hl.1 rfl (Nat.le_of_ble_eq_true rfl) dL_law_187 ⟨Nat.le_of_ble_eq_true rfl, Nat.le_of_ble_eq_true rfl⟩ rfl (fun H locs hP hD hS => ?_)
        refine lv_aload_n X.1 X.2.1 dL_law_190 rfl (lv_at hl 2 rfl) ?_
        refine lv_aload_n X.1 X.2.1 dL_law_191 rfl (lv_at hl 0 rfl) ?_
        refine lv_iload_n X.1 X.2.1 dL_law_192 rfl (lv_at hl 3 rfl) ?_
        refine lv_iconst (v := 1) X.1 X.2.1 dL_law_193 (by decide) ?_
        refine lv_iadd X.1 X.2.1 dL_law_194 ?_
        obtain ⟨hi12, hf⟩ := chk_e hf
        obtain ⟨v13, ev13, hf⟩ := stp_e hf
        refine va_sld X.1 X.2.1 hX hbl hbA hS hi12 dL_law_195 ?_
        refine z_top ev13 ?_
        refine lv_aload_n X.1 X.2.1 dL_law_196 rfl (lv_at hl 0 rfl) ?_
        refine lv_iload_n X.1 X.2.1 dL_law_197 rfl (lv_at hl 3 rfl) ?_
        refine lv_iconst (v := 2) X.1 X.2.1 dL_law_198 (by decide) ?_
        refine lv_iadd X.1 X.2.1 dL_law_199 ?_
        obtain ⟨hi14, hf⟩ := chk_e hf
        obtain ⟨v15, ev15, hf⟩ := stp_e hf
        refine va_sld X.1 X.2.1 hX hbl hbA hS hi14 dL_law_200 ?_
        refine z_top ev15 ?_
        obtain ⟨r16, s17, hc18, hf⟩ := bd2_e hf
        refine z_V (n := 2) (As := [.int v13, .int v15]) (rest := [.int r9]) (ci := 9) (q0 := 0) X hK hN (kX9_type l D K aM q18_M _ v13 v15 r16 s17 hc18) (bw_VL W8_10 W8_11 W8_12 W1_5 W8_13) rfl ⟨rfl, rfl⟩ (by decide +kernel) rfl ⟨Nat.le_of_ble_eq_true rfl, Nat.le_of_ble_eq_true rfl⟩ hP.rig hD.rig rfl rfl (zj_right hP hD hS hA) hS hl.1 rfl (Nat.le_of_ble_eq_true rfl) dL_law_201 ⟨Nat.le_of_ble_eq_true rfl, Nat.le_of_ble_eq_true rfl⟩ rfl (fun H locs hP hD hS => ?_)
        refine lv_icmp_eq (tgt := 1134) X.1 X.2.1 dL_law_204 (by decide) (fun c19 => ?_) (fun c19 => ?_)
        · have hf := ite_t hf c19
          obtain ⟨w20, ew20, hf⟩ := stp_e hf
          refine lv_iinc (v := w20) (lv' := [(3, .int w20), (0, .ref b), (1, .ref (g 0 0)), (2, .ref (aM 0))]) X.1 X.2.1 dL_law_1134 hl (k := 3) rfl (by rw [ew20]; rfl) (by decide) rfl (fun ls hl => ?_)
          refine lv_goto (tgt := 18) X.1 X.2.1 dL_law_1137 (by decide) ?_
          exact ih _ _ _ _ hf _ _ hP hD hS _ (lv_sub hl [1, 2, 3, 0] rfl)
        · have hf := ite_f hf c19
          refine lv_iconst (v := 0) X.1 X.2.1 dL_law_207 (by decide) ?_
          exact absurd (z_inj1 hf) (by decide)
      have hf := ite_f hf c4
      by_cases c21 : (v3 &&& 31) = 1
      · have hf := ite_t hf c21
        refine lv_tableIn (tgt := 209) X.1 X.2.1 dL_law_33 (by rw [c21]; decide) (by rw [c21]; decide) (by rw [c21]; rfl) (by decide) ?_
        refine lv_aload_n X.1 X.2.1 dL_law_209 rfl (lv_at hl 1 rfl) ?_
        refine lv_aload_n X.1 X.2.1 dL_law_210 rfl (lv_at hl 0 rfl) ?_
        refine lv_iload_n X.1 X.2.1 dL_law_211 rfl (lv_at hl 3 rfl) ?_
        refine lv_iconst (v := 1) X.1 X.2.1 dL_law_212 (by decide) ?_
        refine lv_iadd X.1 X.2.1 dL_law_213 ?_
        obtain ⟨hi22, hf⟩ := chk_e hf
        obtain ⟨v23, ev23, hf⟩ := stp_e hf
        refine va_sld X.1 X.2.1 hX hbl hbA hS hi22 dL_law_214 ?_
        refine z_top ev23 ?_
        obtain ⟨r24, z25, hc26, hf⟩ := bd2_e hf
        refine z_V (n := 1) (As := [.int v23]) (rest := []) (ci := 8) (q0 := 0) X hK hN (kX8_wipe l D K g q18_Z q18_ZL _ v23 r24 z25 hc26) (bw_VL W8_20 W8_21 W8_22 W1_2 W8_23) rfl ⟨rfl, rfl⟩ (by decide +kernel) rfl ⟨Nat.le_of_ble_eq_true rfl, Nat.le_of_ble_eq_true rfl⟩ hP.lef hD.lef rfl rfl (zj_left hP hD hS hA) hS hl.1 rfl (Nat.le_of_ble_eq_true rfl) dL_law_215 ⟨Nat.le_of_ble_eq_true rfl, Nat.le_of_ble_eq_true rfl⟩ rfl (fun H locs hP hD hS => ?_)
        refine lv_aload_n X.1 X.2.1 dL_law_218 rfl (lv_at hl 2 rfl) ?_
        refine lv_aload_n X.1 X.2.1 dL_law_219 rfl (lv_at hl 0 rfl) ?_
        refine lv_iload_n X.1 X.2.1 dL_law_220 rfl (lv_at hl 3 rfl) ?_
        refine lv_iconst (v := 1) X.1 X.2.1 dL_law_221 (by decide) ?_
        refine lv_iadd X.1 X.2.1 dL_law_222 ?_
        obtain ⟨hi27, hf⟩ := chk_e hf
        obtain ⟨v28, ev28, hf⟩ := stp_e hf
        refine va_sld X.1 X.2.1 hX hbl hbA hS hi27 dL_law_223 ?_
        refine z_top ev28 ?_
        obtain ⟨r29, s30, hc31, hf⟩ := bd2_e hf
        refine z_V (n := 1) (As := [.int v28]) (rest := [.int r24]) (ci := 9) (q0 := 0) X hK hN (kX9_wipe l D K aM q18_M _ v28 r29 s30 hc31) (bw_VL W9_0 W9_1 W9_2 W1_5 W9_3) rfl ⟨rfl, rfl⟩ (by decide +kernel) rfl ⟨Nat.le_of_ble_eq_true rfl, Nat.le_of_ble_eq_true rfl⟩ hP.rig hD.rig rfl rfl (zj_right hP hD hS hA) hS hl.1 rfl (Nat.le_of_ble_eq_true rfl) dL_law_224 ⟨Nat.le_of_ble_eq_true rfl, Nat.le_of_ble_eq_true rfl⟩ rfl (fun H locs hP hD hS => ?_)
        refine lv_icmp_eq (tgt := 1134) X.1 X.2.1 dL_law_227 (by decide) (fun c32 => ?_) (fun c32 => ?_)
        · have hf := ite_t hf c32
          obtain ⟨w33, ew33, hf⟩ := stp_e hf
          refine lv_iinc (v := w33) (lv' := [(3, .int w33), (0, .ref b), (1, .ref (g 0 0)), (2, .ref (aM 0))]) X.1 X.2.1 dL_law_1134 hl (k := 3) rfl (by rw [ew33]; rfl) (by decide) rfl (fun ls hl => ?_)
          refine lv_goto (tgt := 18) X.1 X.2.1 dL_law_1137 (by decide) ?_
          exact ih _ _ _ _ hf _ _ hP hD hS _ (lv_sub hl [1, 2, 3, 0] rfl)
        · have hf := ite_f hf c32
          refine lv_iconst (v := 0) X.1 X.2.1 dL_law_230 (by decide) ?_
          exact absurd (z_inj1 hf) (by decide)
      have hf := ite_f hf c21
      by_cases c34 : (v3 &&& 31) = 2
      · have hf := ite_t hf c34
        refine lv_tableIn (tgt := 232) X.1 X.2.1 dL_law_33 (by rw [c34]; decide) (by rw [c34]; decide) (by rw [c34]; rfl) (by decide) ?_
        refine lv_aload_n X.1 X.2.1 dL_law_232 rfl (lv_at hl 1 rfl) ?_
        refine lv_aload_n X.1 X.2.1 dL_law_233 rfl (lv_at hl 0 rfl) ?_
        refine lv_iload_n X.1 X.2.1 dL_law_234 rfl (lv_at hl 3 rfl) ?_
        refine lv_iconst (v := 1) X.1 X.2.1 dL_law_235 (by decide) ?_
        refine lv_iadd X.1 X.2.1 dL_law_236 ?_
        obtain ⟨hi35, hf⟩ := chk_e hf
        obtain ⟨v36, ev36, hf⟩ := stp_e hf
        refine va_sld X.1 X.2.1 hX hbl hbA hS hi35 dL_law_237 ?_
        refine z_top ev36 ?_
        obtain ⟨r37, z38, hc39, hf⟩ := bd2_e hf
        refine z_V (n := 1) (As := [.int v36]) (rest := []) (ci := 8) (q0 := 0) X hK hN (kX8_undo l D K g q18_Z q18_ZL _ v36 r37 z38 hc39) (bw_VL W9_4 W9_5 W9_6 W1_2 W9_7) rfl ⟨rfl, rfl⟩ (by decide +kernel) rfl ⟨Nat.le_of_ble_eq_true rfl, Nat.le_of_ble_eq_true rfl⟩ hP.lef hD.lef rfl rfl (zj_left hP hD hS hA) hS hl.1 rfl (Nat.le_of_ble_eq_true rfl) dL_law_238 ⟨Nat.le_of_ble_eq_true rfl, Nat.le_of_ble_eq_true rfl⟩ rfl (fun H locs hP hD hS => ?_)
        refine lv_aload_n X.1 X.2.1 dL_law_241 rfl (lv_at hl 2 rfl) ?_
        refine lv_aload_n X.1 X.2.1 dL_law_242 rfl (lv_at hl 0 rfl) ?_
        refine lv_iload_n X.1 X.2.1 dL_law_243 rfl (lv_at hl 3 rfl) ?_
        refine lv_iconst (v := 1) X.1 X.2.1 dL_law_244 (by decide) ?_
        refine lv_iadd X.1 X.2.1 dL_law_245 ?_
        obtain ⟨hi40, hf⟩ := chk_e hf
        obtain ⟨v41, ev41, hf⟩ := stp_e hf
        refine va_sld X.1 X.2.1 hX hbl hbA hS hi40 dL_law_246 ?_
        refine z_top ev41 ?_
        obtain ⟨r42, s43, hc44, hf⟩ := bd2_e hf
        refine z_V (n := 1) (As := [.int v41]) (rest := [.int r37]) (ci := 9) (q0 := 0) X hK hN (kX9_undo l D K aM q18_M _ v41 r42 s43 hc44) (bw_VL W9_8 W9_9 W9_10 W1_5 W9_11) rfl ⟨rfl, rfl⟩ (by decide +kernel) rfl ⟨Nat.le_of_ble_eq_true rfl, Nat.le_of_ble_eq_true rfl⟩ hP.rig hD.rig rfl rfl (zj_right hP hD hS hA) hS hl.1 rfl (Nat.le_of_ble_eq_true rfl) dL_law_247 ⟨Nat.le_of_ble_eq_true rfl, Nat.le_of_ble_eq_true rfl⟩ rfl (fun H locs hP hD hS => ?_)
        refine lv_icmp_eq (tgt := 1134) X.1 X.2.1 dL_law_250 (by decide) (fun c45 => ?_) (fun c45 => ?_)
        · have hf := ite_t hf c45
          obtain ⟨w46, ew46, hf⟩ := stp_e hf
          refine lv_iinc (v := w46) (lv' := [(3, .int w46), (0, .ref b), (1, .ref (g 0 0)), (2, .ref (aM 0))]) X.1 X.2.1 dL_law_1134 hl (k := 3) rfl (by rw [ew46]; rfl) (by decide) rfl (fun ls hl => ?_)
          refine lv_goto (tgt := 18) X.1 X.2.1 dL_law_1137 (by decide) ?_
          exact ih _ _ _ _ hf _ _ hP hD hS _ (lv_sub hl [1, 2, 3, 0] rfl)
        · have hf := ite_f hf c45
          refine lv_iconst (v := 0) X.1 X.2.1 dL_law_253 (by decide) ?_
          exact absurd (z_inj1 hf) (by decide)
      have hf := ite_f hf c34
      by_cases c47 : (v3 &&& 31) = 3
      · have hf := ite_t hf c47
        refine lv_tableIn (tgt := 255) X.1 X.2.1 dL_law_33 (by rw [c47]; decide) (by rw [c47]; decide) (by rw [c47]; rfl) (by decide) ?_
        refine lv_aload_n X.1 X.2.1 dL_law_255 rfl (lv_at hl 1 rfl) ?_
        refine lv_aload_n X.1 X.2.1 dL_law_256 rfl (lv_at hl 0 rfl) ?_
        refine lv_iload_n X.1 X.2.1 dL_law_257 rfl (lv_at hl 3 rfl) ?_
        refine lv_iconst (v := 1) X.1 X.2.1 dL_law_258 (by decide) ?_
        refine lv_iadd X.1 X.2.1 dL_law_259 ?_
        obtain ⟨hi48, hf⟩ := chk_e hf
        obtain ⟨v49, ev49, hf⟩ := stp_e hf
        refine va_sld X.1 X.2.1 hX hbl hbA hS hi48 dL_law_260 ?_
        refine z_top ev49 ?_
        obtain ⟨r50, hc51, hf⟩ := bd1_e hf
        refine z_V (n := 1) (As := [.int v49]) (rest := []) (ci := 8) (q0 := 0) X hK hN (kX8_fault l D K g q18_Z q18_ZL _ v49 r50 hc51) (bw_VL W9_12 W9_13 W9_14 W1_2 W9_15) rfl ⟨rfl, rfl⟩ (by decide +kernel) rfl ⟨Nat.le_of_ble_eq_true rfl, Nat.le_of_ble_eq_true rfl⟩ hP.lef hD.lef rfl rfl (zj_left hP hD hS hA) hS hl.1 rfl (Nat.le_of_ble_eq_true rfl) dL_law_261 ⟨Nat.le_of_ble_eq_true rfl, Nat.le_of_ble_eq_true rfl⟩ rfl (fun H locs hP hD hS => ?_)
        refine lv_aload_n X.1 X.2.1 dL_law_264 rfl (lv_at hl 2 rfl) ?_
        refine lv_aload_n X.1 X.2.1 dL_law_265 rfl (lv_at hl 0 rfl) ?_
        refine lv_iload_n X.1 X.2.1 dL_law_266 rfl (lv_at hl 3 rfl) ?_
        refine lv_iconst (v := 1) X.1 X.2.1 dL_law_267 (by decide) ?_
        refine lv_iadd X.1 X.2.1 dL_law_268 ?_
        obtain ⟨hi52, hf⟩ := chk_e hf
        obtain ⟨v53, ev53, hf⟩ := stp_e hf
        refine va_sld X.1 X.2.1 hX hbl hbA hS hi52 dL_law_269 ?_
        refine z_top ev53 ?_
        obtain ⟨r54, s55, hc56, hf⟩ := bd2_e hf
        refine z_V (n := 1) (As := [.int v53]) (rest := [.int r50]) (ci := 9) (q0 := 0) X hK hN (kX9_fault l D K aM q18_M _ v53 r54 s55 hc56) (bw_VL W10_0 W10_1 W10_2 W1_5 W10_3) rfl ⟨rfl, rfl⟩ (by decide +kernel) rfl ⟨Nat.le_of_ble_eq_true rfl, Nat.le_of_ble_eq_true rfl⟩ hP.rig hD.rig rfl rfl (zj_right hP hD hS hA) hS hl.1 rfl (Nat.le_of_ble_eq_true rfl) dL_law_270 ⟨Nat.le_of_ble_eq_true rfl, Nat.le_of_ble_eq_true rfl⟩ rfl (fun H locs hP hD hS => ?_)
        refine lv_icmp_eq (tgt := 1134) X.1 X.2.1 dL_law_273 (by decide) (fun c57 => ?_) (fun c57 => ?_)
        · have hf := ite_t hf c57
          obtain ⟨w58, ew58, hf⟩ := stp_e hf
          refine lv_iinc (v := w58) (lv' := [(3, .int w58), (0, .ref b), (1, .ref (g 0 0)), (2, .ref (aM 0))]) X.1 X.2.1 dL_law_1134 hl (k := 3) rfl (by rw [ew58]; rfl) (by decide) rfl (fun ls hl => ?_)
          refine lv_goto (tgt := 18) X.1 X.2.1 dL_law_1137 (by decide) ?_
          exact ih _ _ _ _ hf _ _ hP hD hS _ (lv_sub hl [1, 2, 3, 0] rfl)
        · have hf := ite_f hf c57
          refine lv_iconst (v := 0) X.1 X.2.1 dL_law_276 (by decide) ?_
          exact absurd (z_inj1 hf) (by decide)
      have hf := ite_f hf c47
      by_cases c59 : (v3 &&& 31) = 4
      · have hf := ite_t hf c59
        refine lv_tableIn (tgt := 278) X.1 X.2.1 dL_law_33 (by rw [c59]; decide) (by rw [c59]; decide) (by rw [c59]; rfl) (by decide) ?_
        refine lv_aload_n X.1 X.2.1 dL_law_278 rfl (lv_at hl 1 rfl) ?_
        refine lv_aload_n X.1 X.2.1 dL_law_279 rfl (lv_at hl 0 rfl) ?_
        refine lv_iload_n X.1 X.2.1 dL_law_280 rfl (lv_at hl 3 rfl) ?_
        refine lv_iconst (v := 1) X.1 X.2.1 dL_law_281 (by decide) ?_
        refine lv_iadd X.1 X.2.1 dL_law_282 ?_
        obtain ⟨hi60, hf⟩ := chk_e hf
        obtain ⟨v61, ev61, hf⟩ := stp_e hf
        refine va_sld X.1 X.2.1 hX hbl hbA hS hi60 dL_law_283 ?_
        refine z_top ev61 ?_
        refine lv_aload_n X.1 X.2.1 dL_law_284 rfl (lv_at hl 0 rfl) ?_
        refine lv_iload_n X.1 X.2.1 dL_law_285 rfl (lv_at hl 3 rfl) ?_
        refine lv_iconst (v := 2) X.1 X.2.1 dL_law_286 (by decide) ?_
        refine lv_iadd X.1 X.2.1 dL_law_287 ?_
        obtain ⟨hi62, hf⟩ := chk_e hf
        obtain ⟨v63, ev63, hf⟩ := stp_e hf
        refine va_sld X.1 X.2.1 hX hbl hbA hS hi62 dL_law_288 ?_
        refine z_top ev63 ?_
        obtain ⟨r64, z65, hc66, hf⟩ := bd2_e hf
        refine z_V (n := 2) (As := [.int v61, .int v63]) (rest := []) (ci := 8) (q0 := 0) X hK hN (kX8_rider l D K g q18_Z q18_ZL _ v61 v63 r64 z65 hc66) (bw_VL W11_7 W11_8 W11_9 W1_2 W11_10) rfl ⟨rfl, rfl⟩ (by decide +kernel) rfl ⟨Nat.le_of_ble_eq_true rfl, Nat.le_of_ble_eq_true rfl⟩ hP.lef hD.lef rfl rfl (zj_left hP hD hS hA) hS hl.1 rfl (Nat.le_of_ble_eq_true rfl) dL_law_289 ⟨Nat.le_of_ble_eq_true rfl, Nat.le_of_ble_eq_true rfl⟩ rfl (fun H locs hP hD hS => ?_)
        refine lv_aload_n X.1 X.2.1 dL_law_292 rfl (lv_at hl 2 rfl) ?_
        refine lv_aload_n X.1 X.2.1 dL_law_293 rfl (lv_at hl 0 rfl) ?_
        refine lv_iload_n X.1 X.2.1 dL_law_294 rfl (lv_at hl 3 rfl) ?_
        refine lv_iconst (v := 1) X.1 X.2.1 dL_law_295 (by decide) ?_
        refine lv_iadd X.1 X.2.1 dL_law_296 ?_
        obtain ⟨hi67, hf⟩ := chk_e hf
        obtain ⟨v68, ev68, hf⟩ := stp_e hf
        refine va_sld X.1 X.2.1 hX hbl hbA hS hi67 dL_law_297 ?_
        refine z_top ev68 ?_
        refine lv_aload_n X.1 X.2.1 dL_law_298 rfl (lv_at hl 0 rfl) ?_
        refine lv_iload_n X.1 X.2.1 dL_law_299 rfl (lv_at hl 3 rfl) ?_
        refine lv_iconst (v := 2) X.1 X.2.1 dL_law_300 (by decide) ?_
        refine lv_iadd X.1 X.2.1 dL_law_301 ?_
        obtain ⟨hi69, hf⟩ := chk_e hf
        obtain ⟨v70, ev70, hf⟩ := stp_e hf
        refine va_sld X.1 X.2.1 hX hbl hbA hS hi69 dL_law_302 ?_
        refine z_top ev70 ?_
        obtain ⟨r71, s72, hc73, hf⟩ := bd2_e hf
        refine z_V (n := 2) (As := [.int v68, .int v70]) (rest := [.int r64]) (ci := 9) (q0 := 0) X hK hN (kX9_rider l D K aM q18_M _ v68 v70 r71 s72 hc73) (bw_VL W16_5 W16_6 W16_7 W1_5 W16_8) rfl ⟨rfl, rfl⟩ (by decide +kernel) rfl ⟨Nat.le_of_ble_eq_true rfl, Nat.le_of_ble_eq_true rfl⟩ hP.rig hD.rig rfl rfl (zj_right hP hD hS hA) hS hl.1 rfl (Nat.le_of_ble_eq_true rfl) dL_law_303 ⟨Nat.le_of_ble_eq_true rfl, Nat.le_of_ble_eq_true rfl⟩ rfl (fun H locs hP hD hS => ?_)
        refine lv_icmp_eq (tgt := 1134) X.1 X.2.1 dL_law_306 (by decide) (fun c74 => ?_) (fun c74 => ?_)
        · have hf := ite_t hf c74
          obtain ⟨w75, ew75, hf⟩ := stp_e hf
          refine lv_iinc (v := w75) (lv' := [(3, .int w75), (0, .ref b), (1, .ref (g 0 0)), (2, .ref (aM 0))]) X.1 X.2.1 dL_law_1134 hl (k := 3) rfl (by rw [ew75]; rfl) (by decide) rfl (fun ls hl => ?_)
          refine lv_goto (tgt := 18) X.1 X.2.1 dL_law_1137 (by decide) ?_
          exact ih _ _ _ _ hf _ _ hP hD hS _ (lv_sub hl [1, 2, 3, 0] rfl)
        · have hf := ite_f hf c74
          refine lv_iconst (v := 0) X.1 X.2.1 dL_law_309 (by decide) ?_
          exact absurd (z_inj1 hf) (by decide)
      have hf := ite_f hf c59
      by_cases c76 : (v3 &&& 31) = 5
      · have hf := ite_t hf c76
        refine lv_tableIn (tgt := 311) X.1 X.2.1 dL_law_33 (by rw [c76]; decide) (by rw [c76]; decide) (by rw [c76]; rfl) (by decide) ?_
        refine lv_aload_n X.1 X.2.1 dL_law_311 rfl (lv_at hl 1 rfl) ?_
        refine lv_aload_n X.1 X.2.1 dL_law_312 rfl (lv_at hl 0 rfl) ?_
        refine lv_iload_n X.1 X.2.1 dL_law_313 rfl (lv_at hl 3 rfl) ?_
        refine lv_iconst (v := 1) X.1 X.2.1 dL_law_314 (by decide) ?_
        refine lv_iadd X.1 X.2.1 dL_law_315 ?_
        obtain ⟨hi77, hf⟩ := chk_e hf
        obtain ⟨v78, ev78, hf⟩ := stp_e hf
        refine va_sld X.1 X.2.1 hX hbl hbA hS hi77 dL_law_316 ?_
        refine z_top ev78 ?_
        refine lv_aload_n X.1 X.2.1 dL_law_317 rfl (lv_at hl 0 rfl) ?_
        refine lv_iload_n X.1 X.2.1 dL_law_318 rfl (lv_at hl 3 rfl) ?_
        refine lv_iconst (v := 2) X.1 X.2.1 dL_law_319 (by decide) ?_
        refine lv_iadd X.1 X.2.1 dL_law_320 ?_
        obtain ⟨hi79, hf⟩ := chk_e hf
        obtain ⟨v80, ev80, hf⟩ := stp_e hf
        refine va_sld X.1 X.2.1 hX hbl hbA hS hi79 dL_law_321 ?_
        refine z_top ev80 ?_
        obtain ⟨r81, z82, hc83, hf⟩ := bd2_e hf
        refine z_V (n := 2) (As := [.int v78, .int v80]) (rest := []) (ci := 8) (q0 := 0) X hK hN (kX8_leaver l D K g q18_Z q18_ZL _ v78 v80 r81 z82 hc83) (bw_VL W16_21 W16_22 W16_23 W1_2 W17_0) rfl ⟨rfl, rfl⟩ (by decide +kernel) rfl ⟨Nat.le_of_ble_eq_true rfl, Nat.le_of_ble_eq_true rfl⟩ hP.lef hD.lef rfl rfl (zj_left hP hD hS hA) hS hl.1 rfl (Nat.le_of_ble_eq_true rfl) dL_law_322 ⟨Nat.le_of_ble_eq_true rfl, Nat.le_of_ble_eq_true rfl⟩ rfl (fun H locs hP hD hS => ?_)
        refine lv_aload_n X.1 X.2.1 dL_law_325 rfl (lv_at hl 2 rfl) ?_
        refine lv_aload_n X.1 X.2.1 dL_law_326 rfl (lv_at hl 0 rfl) ?_
        refine lv_iload_n X.1 X.2.1 dL_law_327 rfl (lv_at hl 3 rfl) ?_
        refine lv_iconst (v := 1) X.1 X.2.1 dL_law_328 (by decide) ?_
        refine lv_iadd X.1 X.2.1 dL_law_329 ?_
        obtain ⟨hi84, hf⟩ := chk_e hf
        obtain ⟨v85, ev85, hf⟩ := stp_e hf
        refine va_sld X.1 X.2.1 hX hbl hbA hS hi84 dL_law_330 ?_
        refine z_top ev85 ?_
        refine lv_aload_n X.1 X.2.1 dL_law_331 rfl (lv_at hl 0 rfl) ?_
        refine lv_iload_n X.1 X.2.1 dL_law_332 rfl (lv_at hl 3 rfl) ?_
        refine lv_iconst (v := 2) X.1 X.2.1 dL_law_333 (by decide) ?_
        refine lv_iadd X.1 X.2.1 dL_law_334 ?_
        obtain ⟨hi86, hf⟩ := chk_e hf
        obtain ⟨v87, ev87, hf⟩ := stp_e hf
        refine va_sld X.1 X.2.1 hX hbl hbA hS hi86 dL_law_335 ?_
        refine z_top ev87 ?_
        obtain ⟨r88, s89, hc90, hf⟩ := bd2_e hf
        refine z_V (n := 2) (As := [.int v85, .int v87]) (rest := [.int r81]) (ci := 9) (q0 := 0) X hK hN (kX9_leaver l D K aM q18_M _ v85 v87 r88 s89 hc90) (bw_VL W17_8 W17_9 W17_10 W1_5 W17_11) rfl ⟨rfl, rfl⟩ (by decide +kernel) rfl ⟨Nat.le_of_ble_eq_true rfl, Nat.le_of_ble_eq_true rfl⟩ hP.rig hD.rig rfl rfl (zj_right hP hD hS hA) hS hl.1 rfl (Nat.le_of_ble_eq_true rfl) dL_law_336 ⟨Nat.le_of_ble_eq_true rfl, Nat.le_of_ble_eq_true rfl⟩ rfl (fun H locs hP hD hS => ?_)
        refine lv_icmp_eq (tgt := 1134) X.1 X.2.1 dL_law_339 (by decide) (fun c91 => ?_) (fun c91 => ?_)
        · have hf := ite_t hf c91
          obtain ⟨w92, ew92, hf⟩ := stp_e hf
          refine lv_iinc (v := w92) (lv' := [(3, .int w92), (0, .ref b), (1, .ref (g 0 0)), (2, .ref (aM 0))]) X.1 X.2.1 dL_law_1134 hl (k := 3) rfl (by rw [ew92]; rfl) (by decide) rfl (fun ls hl => ?_)
          refine lv_goto (tgt := 18) X.1 X.2.1 dL_law_1137 (by decide) ?_
          exact ih _ _ _ _ hf _ _ hP hD hS _ (lv_sub hl [1, 2, 3, 0] rfl)
        · have hf := ite_f hf c91
          refine lv_iconst (v := 0) X.1 X.2.1 dL_law_342 (by decide) ?_
          exact absurd (z_inj1 hf) (by decide)
      have hf := ite_f hf c76
      by_cases c93 : (v3 &&& 31) = 6
      · have hf := ite_t hf c93
        refine lv_tableIn (tgt := 344) X.1 X.2.1 dL_law_33 (by rw [c93]; decide) (by rw [c93]; decide) (by rw [c93]; rfl) (by decide) ?_
        refine lv_aload_n X.1 X.2.1 dL_law_344 rfl (lv_at hl 1 rfl) ?_
        refine lv_aload_n X.1 X.2.1 dL_law_345 rfl (lv_at hl 0 rfl) ?_
        refine lv_iload_n X.1 X.2.1 dL_law_346 rfl (lv_at hl 3 rfl) ?_
        refine lv_iconst (v := 1) X.1 X.2.1 dL_law_347 (by decide) ?_
        refine lv_iadd X.1 X.2.1 dL_law_348 ?_
        obtain ⟨hi94, hf⟩ := chk_e hf
        obtain ⟨v95, ev95, hf⟩ := stp_e hf
        refine va_sld X.1 X.2.1 hX hbl hbA hS hi94 dL_law_349 ?_
        refine z_top ev95 ?_
        obtain ⟨r96, z97, hc98, hf⟩ := bd2_e hf
        refine z_V (n := 1) (As := [.int v95]) (rest := []) (ci := 8) (q0 := 0) X hK hN (kX8_stop l D K g q18_Z q18_ZL _ v95 r96 z97 hc98) (bw_VL W17_16 W17_17 W17_18 W1_2 W17_19) rfl ⟨rfl, rfl⟩ (by decide +kernel) rfl ⟨Nat.le_of_ble_eq_true rfl, Nat.le_of_ble_eq_true rfl⟩ hP.lef hD.lef rfl rfl (zj_left hP hD hS hA) hS hl.1 rfl (Nat.le_of_ble_eq_true rfl) dL_law_350 ⟨Nat.le_of_ble_eq_true rfl, Nat.le_of_ble_eq_true rfl⟩ rfl (fun H locs hP hD hS => ?_)
        refine lv_aload_n X.1 X.2.1 dL_law_353 rfl (lv_at hl 2 rfl) ?_
        refine lv_aload_n X.1 X.2.1 dL_law_354 rfl (lv_at hl 0 rfl) ?_
        refine lv_iload_n X.1 X.2.1 dL_law_355 rfl (lv_at hl 3 rfl) ?_
        refine lv_iconst (v := 1) X.1 X.2.1 dL_law_356 (by decide) ?_
        refine lv_iadd X.1 X.2.1 dL_law_357 ?_
        obtain ⟨hi99, hf⟩ := chk_e hf
        obtain ⟨v100, ev100, hf⟩ := stp_e hf
        refine va_sld X.1 X.2.1 hX hbl hbA hS hi99 dL_law_358 ?_
        refine z_top ev100 ?_
        obtain ⟨r101, s102, hc103, hf⟩ := bd2_e hf
        refine z_V (n := 1) (As := [.int v100]) (rest := [.int r96]) (ci := 9) (q0 := 0) X hK hN (kX9_stop l D K aM q18_M _ v100 r101 s102 hc103) (bw_VL W17_22 W17_23 W18_0 W1_5 W18_1) rfl ⟨rfl, rfl⟩ (by decide +kernel) rfl ⟨Nat.le_of_ble_eq_true rfl, Nat.le_of_ble_eq_true rfl⟩ hP.rig hD.rig rfl rfl (zj_right hP hD hS hA) hS hl.1 rfl (Nat.le_of_ble_eq_true rfl) dL_law_359 ⟨Nat.le_of_ble_eq_true rfl, Nat.le_of_ble_eq_true rfl⟩ rfl (fun H locs hP hD hS => ?_)
        refine lv_icmp_eq (tgt := 1134) X.1 X.2.1 dL_law_362 (by decide) (fun c104 => ?_) (fun c104 => ?_)
        · have hf := ite_t hf c104
          obtain ⟨w105, ew105, hf⟩ := stp_e hf
          refine lv_iinc (v := w105) (lv' := [(3, .int w105), (0, .ref b), (1, .ref (g 0 0)), (2, .ref (aM 0))]) X.1 X.2.1 dL_law_1134 hl (k := 3) rfl (by rw [ew105]; rfl) (by decide) rfl (fun ls hl => ?_)
          refine lv_goto (tgt := 18) X.1 X.2.1 dL_law_1137 (by decide) ?_
          exact ih _ _ _ _ hf _ _ hP hD hS _ (lv_sub hl [1, 2, 3, 0] rfl)
        · have hf := ite_f hf c104
          refine lv_iconst (v := 0) X.1 X.2.1 dL_law_365 (by decide) ?_
          exact absurd (z_inj1 hf) (by decide)
      have hf := ite_f hf c93
      by_cases c106 : (v3 &&& 31) = 7
      · have hf := ite_t hf c106
        refine lv_tableIn (tgt := 367) X.1 X.2.1 dL_law_33 (by rw [c106]; decide) (by rw [c106]; decide) (by rw [c106]; rfl) (by decide) ?_
        refine lv_aload_n X.1 X.2.1 dL_law_367 rfl (lv_at hl 1 rfl) ?_
        refine lv_aload_n X.1 X.2.1 dL_law_368 rfl (lv_at hl 0 rfl) ?_
        refine lv_iload_n X.1 X.2.1 dL_law_369 rfl (lv_at hl 3 rfl) ?_
        refine lv_iconst (v := 1) X.1 X.2.1 dL_law_370 (by decide) ?_
        refine lv_iadd X.1 X.2.1 dL_law_371 ?_
        obtain ⟨hi107, hf⟩ := chk_e hf
        obtain ⟨v108, ev108, hf⟩ := stp_e hf
        refine va_sld X.1 X.2.1 hX hbl hbA hS hi107 dL_law_372 ?_
        refine z_top ev108 ?_
        refine lv_aload_n X.1 X.2.1 dL_law_373 rfl (lv_at hl 0 rfl) ?_
        refine lv_iload_n X.1 X.2.1 dL_law_374 rfl (lv_at hl 3 rfl) ?_
        refine lv_iconst (v := 2) X.1 X.2.1 dL_law_375 (by decide) ?_
        refine lv_iadd X.1 X.2.1 dL_law_376 ?_
        obtain ⟨hi109, hf⟩ := chk_e hf
        obtain ⟨v110, ev110, hf⟩ := stp_e hf
        refine va_sld X.1 X.2.1 hX hbl hbA hS hi109 dL_law_377 ?_
        refine z_top ev110 ?_
        obtain ⟨r111, z112, hc113, hf⟩ := bd2_e hf
        refine z_V (n := 2) (As := [.int v108, .int v110]) (rest := []) (ci := 8) (q0 := 0) X hK hN (kX8_set l D K g q18_Z q18_ZL _ v108 v110 r111 z112 hc113) (bw_VL W18_6 W18_7 W18_8 W1_2 W18_9) rfl ⟨rfl, rfl⟩ (by decide +kernel) rfl ⟨Nat.le_of_ble_eq_true rfl, Nat.le_of_ble_eq_true rfl⟩ hP.lef hD.lef rfl rfl (zj_left hP hD hS hA) hS hl.1 rfl (Nat.le_of_ble_eq_true rfl) dL_law_378 ⟨Nat.le_of_ble_eq_true rfl, Nat.le_of_ble_eq_true rfl⟩ rfl (fun H locs hP hD hS => ?_)
        refine lv_aload_n X.1 X.2.1 dL_law_381 rfl (lv_at hl 2 rfl) ?_
        refine lv_aload_n X.1 X.2.1 dL_law_382 rfl (lv_at hl 0 rfl) ?_
        refine lv_iload_n X.1 X.2.1 dL_law_383 rfl (lv_at hl 3 rfl) ?_
        refine lv_iconst (v := 1) X.1 X.2.1 dL_law_384 (by decide) ?_
        refine lv_iadd X.1 X.2.1 dL_law_385 ?_
        obtain ⟨hi114, hf⟩ := chk_e hf
        obtain ⟨v115, ev115, hf⟩ := stp_e hf
        refine va_sld X.1 X.2.1 hX hbl hbA hS hi114 dL_law_386 ?_
        refine z_top ev115 ?_
        refine lv_aload_n X.1 X.2.1 dL_law_387 rfl (lv_at hl 0 rfl) ?_
        refine lv_iload_n X.1 X.2.1 dL_law_388 rfl (lv_at hl 3 rfl) ?_
        refine lv_iconst (v := 2) X.1 X.2.1 dL_law_389 (by decide) ?_
        refine lv_iadd X.1 X.2.1 dL_law_390 ?_
        obtain ⟨hi116, hf⟩ := chk_e hf
        obtain ⟨v117, ev117, hf⟩ := stp_e hf
        refine va_sld X.1 X.2.1 hX hbl hbA hS hi116 dL_law_391 ?_
        refine z_top ev117 ?_
        obtain ⟨r118, s119, hc120, hf⟩ := bd2_e hf
        refine z_V (n := 2) (As := [.int v115, .int v117]) (rest := [.int r111]) (ci := 9) (q0 := 0) X hK hN (kX9_set l D K aM q18_M _ v115 v117 r118 s119 hc120) (bw_VL W18_12 W18_13 W18_14 W1_5 W18_15) rfl ⟨rfl, rfl⟩ (by decide +kernel) rfl ⟨Nat.le_of_ble_eq_true rfl, Nat.le_of_ble_eq_true rfl⟩ hP.rig hD.rig rfl rfl (zj_right hP hD hS hA) hS hl.1 rfl (Nat.le_of_ble_eq_true rfl) dL_law_392 ⟨Nat.le_of_ble_eq_true rfl, Nat.le_of_ble_eq_true rfl⟩ rfl (fun H locs hP hD hS => ?_)
        refine lv_icmp_eq (tgt := 1134) X.1 X.2.1 dL_law_395 (by decide) (fun c121 => ?_) (fun c121 => ?_)
        · have hf := ite_t hf c121
          obtain ⟨w122, ew122, hf⟩ := stp_e hf
          refine lv_iinc (v := w122) (lv' := [(3, .int w122), (0, .ref b), (1, .ref (g 0 0)), (2, .ref (aM 0))]) X.1 X.2.1 dL_law_1134 hl (k := 3) rfl (by rw [ew122]; rfl) (by decide) rfl (fun ls hl => ?_)
          refine lv_goto (tgt := 18) X.1 X.2.1 dL_law_1137 (by decide) ?_
          exact ih _ _ _ _ hf _ _ hP hD hS _ (lv_sub hl [1, 2, 3, 0] rfl)
        · have hf := ite_f hf c121
          refine lv_iconst (v := 0) X.1 X.2.1 dL_law_398 (by decide) ?_
          exact absurd (z_inj1 hf) (by decide)
      have hf := ite_f hf c106
      by_cases c123 : (v3 &&& 31) = 8
      · have hf := ite_t hf c123
        refine lv_tableIn (tgt := 400) X.1 X.2.1 dL_law_33 (by rw [c123]; decide) (by rw [c123]; decide) (by rw [c123]; rfl) (by decide) ?_
        refine lv_aload_n X.1 X.2.1 dL_law_400 rfl (lv_at hl 1 rfl) ?_
        refine lv_aload_n X.1 X.2.1 dL_law_401 rfl (lv_at hl 0 rfl) ?_
        refine lv_iload_n X.1 X.2.1 dL_law_402 rfl (lv_at hl 3 rfl) ?_
        refine lv_iconst (v := 1) X.1 X.2.1 dL_law_403 (by decide) ?_
        refine lv_iadd X.1 X.2.1 dL_law_404 ?_
        obtain ⟨hi124, hf⟩ := chk_e hf
        obtain ⟨v125, ev125, hf⟩ := stp_e hf
        refine va_sld X.1 X.2.1 hX hbl hbA hS hi124 dL_law_405 ?_
        refine z_top ev125 ?_
        refine lv_aload_n X.1 X.2.1 dL_law_406 rfl (lv_at hl 0 rfl) ?_
        refine lv_iload_n X.1 X.2.1 dL_law_407 rfl (lv_at hl 3 rfl) ?_
        refine lv_iconst (v := 2) X.1 X.2.1 dL_law_408 (by decide) ?_
        refine lv_iadd X.1 X.2.1 dL_law_409 ?_
        obtain ⟨hi126, hf⟩ := chk_e hf
        obtain ⟨v127, ev127, hf⟩ := stp_e hf
        refine va_sld X.1 X.2.1 hX hbl hbA hS hi126 dL_law_410 ?_
        refine z_top ev127 ?_
        obtain ⟨r128, z129, hc130, hf⟩ := bd2_e hf
        refine z_V (n := 2) (As := [.int v125, .int v127]) (rest := []) (ci := 8) (q0 := 0) X hK hN (kX8_lift l D K g q18_Z q18_ZL _ v125 v127 r128 z129 hc130) (bw_VL W18_16 W18_17 W18_18 W1_2 W18_19) rfl ⟨rfl, rfl⟩ (by decide +kernel) rfl ⟨Nat.le_of_ble_eq_true rfl, Nat.le_of_ble_eq_true rfl⟩ hP.lef hD.lef rfl rfl (zj_left hP hD hS hA) hS hl.1 rfl (Nat.le_of_ble_eq_true rfl) dL_law_411 ⟨Nat.le_of_ble_eq_true rfl, Nat.le_of_ble_eq_true rfl⟩ rfl (fun H locs hP hD hS => ?_)
        refine lv_aload_n X.1 X.2.1 dL_law_414 rfl (lv_at hl 2 rfl) ?_
        refine lv_aload_n X.1 X.2.1 dL_law_415 rfl (lv_at hl 0 rfl) ?_
        refine lv_iload_n X.1 X.2.1 dL_law_416 rfl (lv_at hl 3 rfl) ?_
        refine lv_iconst (v := 1) X.1 X.2.1 dL_law_417 (by decide) ?_
        refine lv_iadd X.1 X.2.1 dL_law_418 ?_
        obtain ⟨hi131, hf⟩ := chk_e hf
        obtain ⟨v132, ev132, hf⟩ := stp_e hf
        refine va_sld X.1 X.2.1 hX hbl hbA hS hi131 dL_law_419 ?_
        refine z_top ev132 ?_
        refine lv_aload_n X.1 X.2.1 dL_law_420 rfl (lv_at hl 0 rfl) ?_
        refine lv_iload_n X.1 X.2.1 dL_law_421 rfl (lv_at hl 3 rfl) ?_
        refine lv_iconst (v := 2) X.1 X.2.1 dL_law_422 (by decide) ?_
        refine lv_iadd X.1 X.2.1 dL_law_423 ?_
        obtain ⟨hi133, hf⟩ := chk_e hf
        obtain ⟨v134, ev134, hf⟩ := stp_e hf
        refine va_sld X.1 X.2.1 hX hbl hbA hS hi133 dL_law_424 ?_
        refine z_top ev134 ?_
        obtain ⟨r135, s136, hc137, hf⟩ := bd2_e hf
        refine z_V (n := 2) (As := [.int v132, .int v134]) (rest := [.int r128]) (ci := 9) (q0 := 0) X hK hN (kX9_lift l D K aM q18_M _ v132 v134 r135 s136 hc137) (bw_VL W19_11 W19_12 W19_13 W1_5 W19_14) rfl ⟨rfl, rfl⟩ (by decide +kernel) rfl ⟨Nat.le_of_ble_eq_true rfl, Nat.le_of_ble_eq_true rfl⟩ hP.rig hD.rig rfl rfl (zj_right hP hD hS hA) hS hl.1 rfl (Nat.le_of_ble_eq_true rfl) dL_law_425 ⟨Nat.le_of_ble_eq_true rfl, Nat.le_of_ble_eq_true rfl⟩ rfl (fun H locs hP hD hS => ?_)
        refine lv_icmp_eq (tgt := 1134) X.1 X.2.1 dL_law_428 (by decide) (fun c138 => ?_) (fun c138 => ?_)
        · have hf := ite_t hf c138
          obtain ⟨w139, ew139, hf⟩ := stp_e hf
          refine lv_iinc (v := w139) (lv' := [(3, .int w139), (0, .ref b), (1, .ref (g 0 0)), (2, .ref (aM 0))]) X.1 X.2.1 dL_law_1134 hl (k := 3) rfl (by rw [ew139]; rfl) (by decide) rfl (fun ls hl => ?_)
          refine lv_goto (tgt := 18) X.1 X.2.1 dL_law_1137 (by decide) ?_
          exact ih _ _ _ _ hf _ _ hP hD hS _ (lv_sub hl [1, 2, 3, 0] rfl)
        · have hf := ite_f hf c138
          refine lv_iconst (v := 0) X.1 X.2.1 dL_law_431 (by decide) ?_
          exact absurd (z_inj1 hf) (by decide)
      have hf := ite_f hf c123
      by_cases c140 : (v3 &&& 31) = 9
      · have hf := ite_t hf c140
        refine lv_tableIn (tgt := 433) X.1 X.2.1 dL_law_33 (by rw [c140]; decide) (by rw [c140]; decide) (by rw [c140]; rfl) (by decide) ?_
        refine lv_aload_n X.1 X.2.1 dL_law_433 rfl (lv_at hl 1 rfl) ?_
        obtain ⟨r141, z142, hc143, hf⟩ := bd2_e hf
        refine z_V (n := 0) (As := []) (rest := []) (ci := 8) (q0 := 0) X hK hN (kX8_ends l D K g q18_Z q18_ZL _ r141 z142 hc143) (bw_VL W22_3 W22_4 W22_5 W1_2 W22_6) rfl ⟨rfl, rfl⟩ (by decide +kernel) rfl ⟨Nat.le_of_ble_eq_true rfl, Nat.le_of_ble_eq_true rfl⟩ hP.lef hD.lef rfl rfl (zj_left hP hD hS hA) hS hl.1 rfl (Nat.le_of_ble_eq_true rfl) dL_law_434 ⟨Nat.le_of_ble_eq_true rfl, Nat.le_of_ble_eq_true rfl⟩ rfl (fun H locs hP hD hS => ?_)
        refine lv_aload_n X.1 X.2.1 dL_law_437 rfl (lv_at hl 2 rfl) ?_
        obtain ⟨r144, s145, hc146, hf⟩ := bd2_e hf
        refine z_V (n := 0) (As := []) (rest := [.int r141]) (ci := 9) (q0 := 0) X hK hN (kX9_ends l D K aM q18_M _ r144 s145 hc146) (bw_VL W22_11 W22_12 W22_13 W1_5 W22_14) rfl ⟨rfl, rfl⟩ (by decide +kernel) rfl ⟨Nat.le_of_ble_eq_true rfl, Nat.le_of_ble_eq_true rfl⟩ hP.rig hD.rig rfl rfl (zj_right hP hD hS hA) hS hl.1 rfl (Nat.le_of_ble_eq_true rfl) dL_law_438 ⟨Nat.le_of_ble_eq_true rfl, Nat.le_of_ble_eq_true rfl⟩ rfl (fun H locs hP hD hS => ?_)
        refine lv_icmp_eq (tgt := 1134) X.1 X.2.1 dL_law_441 (by decide) (fun c147 => ?_) (fun c147 => ?_)
        · have hf := ite_t hf c147
          obtain ⟨w148, ew148, hf⟩ := stp_e hf
          refine lv_iinc (v := w148) (lv' := [(3, .int w148), (0, .ref b), (1, .ref (g 0 0)), (2, .ref (aM 0))]) X.1 X.2.1 dL_law_1134 hl (k := 3) rfl (by rw [ew148]; rfl) (by decide) rfl (fun ls hl => ?_)
          refine lv_goto (tgt := 18) X.1 X.2.1 dL_law_1137 (by decide) ?_
          exact ih _ _ _ _ hf _ _ hP hD hS _ (lv_sub hl [1, 2, 3, 0] rfl)
        · have hf := ite_f hf c147
          refine lv_iconst (v := 0) X.1 X.2.1 dL_law_444 (by decide) ?_
          exact absurd (z_inj1 hf) (by decide)
      have hf := ite_f hf c140
      by_cases c149 : (v3 &&& 31) = 10
      · have hf := ite_t hf c149
        refine lv_tableIn (tgt := 446) X.1 X.2.1 dL_law_33 (by rw [c149]; decide) (by rw [c149]; decide) (by rw [c149]; rfl) (by decide) ?_
        refine lv_aload_n X.1 X.2.1 dL_law_446 rfl (lv_at hl 1 rfl) ?_
        refine lv_aload_n X.1 X.2.1 dL_law_447 rfl (lv_at hl 0 rfl) ?_
        refine lv_iload_n X.1 X.2.1 dL_law_448 rfl (lv_at hl 3 rfl) ?_
        refine lv_iconst (v := 1) X.1 X.2.1 dL_law_449 (by decide) ?_
        refine lv_iadd X.1 X.2.1 dL_law_450 ?_
        obtain ⟨hi150, hf⟩ := chk_e hf
        obtain ⟨v151, ev151, hf⟩ := stp_e hf
        refine va_sld X.1 X.2.1 hX hbl hbA hS hi150 dL_law_451 ?_
        refine z_top ev151 ?_
        refine lv_aload_n X.1 X.2.1 dL_law_452 rfl (lv_at hl 0 rfl) ?_
        refine lv_iload_n X.1 X.2.1 dL_law_453 rfl (lv_at hl 3 rfl) ?_
        refine lv_iconst (v := 2) X.1 X.2.1 dL_law_454 (by decide) ?_
        refine lv_iadd X.1 X.2.1 dL_law_455 ?_
        obtain ⟨hi152, hf⟩ := chk_e hf
        obtain ⟨v153, ev153, hf⟩ := stp_e hf
        refine va_sld X.1 X.2.1 hX hbl hbA hS hi152 dL_law_456 ?_
        refine z_top ev153 ?_
        obtain ⟨r154, z155, hc156, hf⟩ := bd2_e hf
        refine z_V (n := 2) (As := [.int v151, .int v153]) (rest := []) (ci := 8) (q0 := 0) X hK hN (kX8_rides l D K g q18_Z q18_ZL _ v151 v153 r154 z155 hc156) (bw_VL W22_19 W22_20 W22_21 W1_2 W22_22) rfl ⟨rfl, rfl⟩ (by decide +kernel) rfl ⟨Nat.le_of_ble_eq_true rfl, Nat.le_of_ble_eq_true rfl⟩ hP.lef hD.lef rfl rfl (zj_left hP hD hS hA) hS hl.1 rfl (Nat.le_of_ble_eq_true rfl) dL_law_457 ⟨Nat.le_of_ble_eq_true rfl, Nat.le_of_ble_eq_true rfl⟩ rfl (fun H locs hP hD hS => ?_)
        refine lv_aload_n X.1 X.2.1 dL_law_460 rfl (lv_at hl 2 rfl) ?_
        refine lv_aload_n X.1 X.2.1 dL_law_461 rfl (lv_at hl 0 rfl) ?_
        refine lv_iload_n X.1 X.2.1 dL_law_462 rfl (lv_at hl 3 rfl) ?_
        refine lv_iconst (v := 1) X.1 X.2.1 dL_law_463 (by decide) ?_
        refine lv_iadd X.1 X.2.1 dL_law_464 ?_
        obtain ⟨hi157, hf⟩ := chk_e hf
        obtain ⟨v158, ev158, hf⟩ := stp_e hf
        refine va_sld X.1 X.2.1 hX hbl hbA hS hi157 dL_law_465 ?_
        refine z_top ev158 ?_
        refine lv_aload_n X.1 X.2.1 dL_law_466 rfl (lv_at hl 0 rfl) ?_
        refine lv_iload_n X.1 X.2.1 dL_law_467 rfl (lv_at hl 3 rfl) ?_
        refine lv_iconst (v := 2) X.1 X.2.1 dL_law_468 (by decide) ?_
        refine lv_iadd X.1 X.2.1 dL_law_469 ?_
        obtain ⟨hi159, hf⟩ := chk_e hf
        obtain ⟨v160, ev160, hf⟩ := stp_e hf
        refine va_sld X.1 X.2.1 hX hbl hbA hS hi159 dL_law_470 ?_
        refine z_top ev160 ?_
        obtain ⟨r161, s162, hc163, hf⟩ := bd2_e hf
        refine z_V (n := 2) (As := [.int v158, .int v160]) (rest := [.int r154]) (ci := 9) (q0 := 0) X hK hN (kX9_rides l D K aM q18_M _ v158 v160 r161 s162 hc163) (bw_VL W23_11 W23_12 W23_13 W1_5 W23_14) rfl ⟨rfl, rfl⟩ (by decide +kernel) rfl ⟨Nat.le_of_ble_eq_true rfl, Nat.le_of_ble_eq_true rfl⟩ hP.rig hD.rig rfl rfl (zj_right hP hD hS hA) hS hl.1 rfl (Nat.le_of_ble_eq_true rfl) dL_law_471 ⟨Nat.le_of_ble_eq_true rfl, Nat.le_of_ble_eq_true rfl⟩ rfl (fun H locs hP hD hS => ?_)
        refine lv_icmp_eq (tgt := 1134) X.1 X.2.1 dL_law_474 (by decide) (fun c164 => ?_) (fun c164 => ?_)
        · have hf := ite_t hf c164
          obtain ⟨w165, ew165, hf⟩ := stp_e hf
          refine lv_iinc (v := w165) (lv' := [(3, .int w165), (0, .ref b), (1, .ref (g 0 0)), (2, .ref (aM 0))]) X.1 X.2.1 dL_law_1134 hl (k := 3) rfl (by rw [ew165]; rfl) (by decide) rfl (fun ls hl => ?_)
          refine lv_goto (tgt := 18) X.1 X.2.1 dL_law_1137 (by decide) ?_
          exact ih _ _ _ _ hf _ _ hP hD hS _ (lv_sub hl [1, 2, 3, 0] rfl)
        · have hf := ite_f hf c164
          refine lv_iconst (v := 0) X.1 X.2.1 dL_law_477 (by decide) ?_
          exact absurd (z_inj1 hf) (by decide)
      have hf := ite_f hf c149
      by_cases c166 : (v3 &&& 31) = 11
      · have hf := ite_t hf c166
        refine lv_tableIn (tgt := 479) X.1 X.2.1 dL_law_33 (by rw [c166]; decide) (by rw [c166]; decide) (by rw [c166]; rfl) (by decide) ?_
        refine lv_aload_n X.1 X.2.1 dL_law_479 rfl (lv_at hl 1 rfl) ?_
        refine lv_aload_n X.1 X.2.1 dL_law_480 rfl (lv_at hl 0 rfl) ?_
        refine lv_iload_n X.1 X.2.1 dL_law_481 rfl (lv_at hl 3 rfl) ?_
        refine lv_iconst (v := 1) X.1 X.2.1 dL_law_482 (by decide) ?_
        refine lv_iadd X.1 X.2.1 dL_law_483 ?_
        obtain ⟨hi167, hf⟩ := chk_e hf
        obtain ⟨v168, ev168, hf⟩ := stp_e hf
        refine va_sld X.1 X.2.1 hX hbl hbA hS hi167 dL_law_484 ?_
        refine z_top ev168 ?_
        obtain ⟨r169, z170, hc171, hf⟩ := bd2_e hf
        refine z_V (n := 1) (As := [.int v168]) (rest := []) (ci := 8) (q0 := 0) X hK hN (kX8_full l D K g q18_Z q18_ZL _ v168 r169 z170 hc171) (bw_VL W23_19 W23_20 W23_21 W1_2 W23_22) rfl ⟨rfl, rfl⟩ (by decide +kernel) rfl ⟨Nat.le_of_ble_eq_true rfl, Nat.le_of_ble_eq_true rfl⟩ hP.lef hD.lef rfl rfl (zj_left hP hD hS hA) hS hl.1 rfl (Nat.le_of_ble_eq_true rfl) dL_law_485 ⟨Nat.le_of_ble_eq_true rfl, Nat.le_of_ble_eq_true rfl⟩ rfl (fun H locs hP hD hS => ?_)
        refine lv_aload_n X.1 X.2.1 dL_law_488 rfl (lv_at hl 2 rfl) ?_
        refine lv_aload_n X.1 X.2.1 dL_law_489 rfl (lv_at hl 0 rfl) ?_
        refine lv_iload_n X.1 X.2.1 dL_law_490 rfl (lv_at hl 3 rfl) ?_
        refine lv_iconst (v := 1) X.1 X.2.1 dL_law_491 (by decide) ?_
        refine lv_iadd X.1 X.2.1 dL_law_492 ?_
        obtain ⟨hi172, hf⟩ := chk_e hf
        obtain ⟨v173, ev173, hf⟩ := stp_e hf
        refine va_sld X.1 X.2.1 hX hbl hbA hS hi172 dL_law_493 ?_
        refine z_top ev173 ?_
        obtain ⟨r174, s175, hc176, hf⟩ := bd2_e hf
        refine z_V (n := 1) (As := [.int v173]) (rest := [.int r169]) (ci := 9) (q0 := 0) X hK hN (kX9_full l D K aM q18_M _ v173 r174 s175 hc176) (bw_VL W24_11 W24_12 W24_13 W1_5 W24_14) rfl ⟨rfl, rfl⟩ (by decide +kernel) rfl ⟨Nat.le_of_ble_eq_true rfl, Nat.le_of_ble_eq_true rfl⟩ hP.rig hD.rig rfl rfl (zj_right hP hD hS hA) hS hl.1 rfl (Nat.le_of_ble_eq_true rfl) dL_law_494 ⟨Nat.le_of_ble_eq_true rfl, Nat.le_of_ble_eq_true rfl⟩ rfl (fun H locs hP hD hS => ?_)
        refine lv_icmp_eq (tgt := 1134) X.1 X.2.1 dL_law_497 (by decide) (fun c177 => ?_) (fun c177 => ?_)
        · have hf := ite_t hf c177
          obtain ⟨w178, ew178, hf⟩ := stp_e hf
          refine lv_iinc (v := w178) (lv' := [(3, .int w178), (0, .ref b), (1, .ref (g 0 0)), (2, .ref (aM 0))]) X.1 X.2.1 dL_law_1134 hl (k := 3) rfl (by rw [ew178]; rfl) (by decide) rfl (fun ls hl => ?_)
          refine lv_goto (tgt := 18) X.1 X.2.1 dL_law_1137 (by decide) ?_
          exact ih _ _ _ _ hf _ _ hP hD hS _ (lv_sub hl [1, 2, 3, 0] rfl)
        · have hf := ite_f hf c177
          refine lv_iconst (v := 0) X.1 X.2.1 dL_law_500 (by decide) ?_
          exact absurd (z_inj1 hf) (by decide)
      have hf := ite_f hf c166
      by_cases c179 : (v3 &&& 31) = 12
      · have hf := ite_t hf c179
        refine lv_tableIn (tgt := 502) X.1 X.2.1 dL_law_33 (by rw [c179]; decide) (by rw [c179]; decide) (by rw [c179]; rfl) (by decide) ?_
        refine lv_aload_n X.1 X.2.1 dL_law_502 rfl (lv_at hl 1 rfl) ?_
        refine lv_aload_n X.1 X.2.1 dL_law_503 rfl (lv_at hl 0 rfl) ?_
        refine lv_iload_n X.1 X.2.1 dL_law_504 rfl (lv_at hl 3 rfl) ?_
        refine lv_iconst (v := 1) X.1 X.2.1 dL_law_505 (by decide) ?_
        refine lv_iadd X.1 X.2.1 dL_law_506 ?_
        obtain ⟨hi180, hf⟩ := chk_e hf
        obtain ⟨v181, ev181, hf⟩ := stp_e hf
        refine va_sld X.1 X.2.1 hX hbl hbA hS hi180 dL_law_507 ?_
        refine z_top ev181 ?_
        obtain ⟨r182, z183, hc184, hf⟩ := bd2_e hf
        refine z_V (n := 1) (As := [.int v181]) (rest := []) (ci := 8) (q0 := 0) X hK hN (kX8_arrived l D K g q18_Z q18_ZL _ v181 r182 z183 hc184) (bw_VL W24_19 W24_20 W24_21 W1_2 W24_22) rfl ⟨rfl, rfl⟩ (by decide +kernel) rfl ⟨Nat.le_of_ble_eq_true rfl, Nat.le_of_ble_eq_true rfl⟩ hP.lef hD.lef rfl rfl (zj_left hP hD hS hA) hS hl.1 rfl (Nat.le_of_ble_eq_true rfl) dL_law_508 ⟨Nat.le_of_ble_eq_true rfl, Nat.le_of_ble_eq_true rfl⟩ rfl (fun H locs hP hD hS => ?_)
        refine lv_aload_n X.1 X.2.1 dL_law_511 rfl (lv_at hl 2 rfl) ?_
        refine lv_aload_n X.1 X.2.1 dL_law_512 rfl (lv_at hl 0 rfl) ?_
        refine lv_iload_n X.1 X.2.1 dL_law_513 rfl (lv_at hl 3 rfl) ?_
        refine lv_iconst (v := 1) X.1 X.2.1 dL_law_514 (by decide) ?_
        refine lv_iadd X.1 X.2.1 dL_law_515 ?_
        obtain ⟨hi185, hf⟩ := chk_e hf
        obtain ⟨v186, ev186, hf⟩ := stp_e hf
        refine va_sld X.1 X.2.1 hX hbl hbA hS hi185 dL_law_516 ?_
        refine z_top ev186 ?_
        obtain ⟨r187, s188, hc189, hf⟩ := bd2_e hf
        refine z_V (n := 1) (As := [.int v186]) (rest := [.int r182]) (ci := 9) (q0 := 0) X hK hN (kX9_arrived l D K aM q18_M _ v186 r187 s188 hc189) (bw_VL W25_1 W25_2 W25_3 W1_5 W25_4) rfl ⟨rfl, rfl⟩ (by decide +kernel) rfl ⟨Nat.le_of_ble_eq_true rfl, Nat.le_of_ble_eq_true rfl⟩ hP.rig hD.rig rfl rfl (zj_right hP hD hS hA) hS hl.1 rfl (Nat.le_of_ble_eq_true rfl) dL_law_517 ⟨Nat.le_of_ble_eq_true rfl, Nat.le_of_ble_eq_true rfl⟩ rfl (fun H locs hP hD hS => ?_)
        refine lv_icmp_eq (tgt := 1134) X.1 X.2.1 dL_law_520 (by decide) (fun c190 => ?_) (fun c190 => ?_)
        · have hf := ite_t hf c190
          obtain ⟨w191, ew191, hf⟩ := stp_e hf
          refine lv_iinc (v := w191) (lv' := [(3, .int w191), (0, .ref b), (1, .ref (g 0 0)), (2, .ref (aM 0))]) X.1 X.2.1 dL_law_1134 hl (k := 3) rfl (by rw [ew191]; rfl) (by decide) rfl (fun ls hl => ?_)
          refine lv_goto (tgt := 18) X.1 X.2.1 dL_law_1137 (by decide) ?_
          exact ih _ _ _ _ hf _ _ hP hD hS _ (lv_sub hl [1, 2, 3, 0] rfl)
        · have hf := ite_f hf c190
          refine lv_iconst (v := 0) X.1 X.2.1 dL_law_523 (by decide) ?_
          exact absurd (z_inj1 hf) (by decide)
      have hf := ite_f hf c179
      by_cases c192 : (v3 &&& 31) = 13
      · have hf := ite_t hf c192
        refine lv_tableIn (tgt := 525) X.1 X.2.1 dL_law_33 (by rw [c192]; decide) (by rw [c192]; decide) (by rw [c192]; rfl) (by decide) ?_
        refine lv_aload_n X.1 X.2.1 dL_law_525 rfl (lv_at hl 1 rfl) ?_
        refine lv_aload_n X.1 X.2.1 dL_law_526 rfl (lv_at hl 0 rfl) ?_
        refine lv_iload_n X.1 X.2.1 dL_law_527 rfl (lv_at hl 3 rfl) ?_
        refine lv_iconst (v := 1) X.1 X.2.1 dL_law_528 (by decide) ?_
        refine lv_iadd X.1 X.2.1 dL_law_529 ?_
        obtain ⟨hi193, hf⟩ := chk_e hf
        obtain ⟨v194, ev194, hf⟩ := stp_e hf
        refine va_sld X.1 X.2.1 hX hbl hbA hS hi193 dL_law_530 ?_
        refine z_top ev194 ?_
        refine lv_aload_n X.1 X.2.1 dL_law_531 rfl (lv_at hl 0 rfl) ?_
        refine lv_iload_n X.1 X.2.1 dL_law_532 rfl (lv_at hl 3 rfl) ?_
        refine lv_iconst (v := 2) X.1 X.2.1 dL_law_533 (by decide) ?_
        refine lv_iadd X.1 X.2.1 dL_law_534 ?_
        obtain ⟨hi195, hf⟩ := chk_e hf
        obtain ⟨v196, ev196, hf⟩ := stp_e hf
        refine va_sld X.1 X.2.1 hX hbl hbA hS hi195 dL_law_535 ?_
        refine z_top ev196 ?_
        obtain ⟨r197, z198, hc199, hf⟩ := bd2_e hf
        refine z_V (n := 2) (As := [.int v194, .int v196]) (rest := []) (ci := 8) (q0 := 0) X hK hN (kX8_knows l D K g q18_Z q18_ZL _ v194 v196 r197 z198 hc199) (bw_VL W25_13 W25_14 W25_15 W1_2 W25_16) rfl ⟨rfl, rfl⟩ (by decide +kernel) rfl ⟨Nat.le_of_ble_eq_true rfl, Nat.le_of_ble_eq_true rfl⟩ hP.lef hD.lef rfl rfl (zj_left hP hD hS hA) hS hl.1 rfl (Nat.le_of_ble_eq_true rfl) dL_law_536 ⟨Nat.le_of_ble_eq_true rfl, Nat.le_of_ble_eq_true rfl⟩ rfl (fun H locs hP hD hS => ?_)
        refine lv_aload_n X.1 X.2.1 dL_law_539 rfl (lv_at hl 2 rfl) ?_
        refine lv_aload_n X.1 X.2.1 dL_law_540 rfl (lv_at hl 0 rfl) ?_
        refine lv_iload_n X.1 X.2.1 dL_law_541 rfl (lv_at hl 3 rfl) ?_
        refine lv_iconst (v := 1) X.1 X.2.1 dL_law_542 (by decide) ?_
        refine lv_iadd X.1 X.2.1 dL_law_543 ?_
        obtain ⟨hi200, hf⟩ := chk_e hf
        obtain ⟨v201, ev201, hf⟩ := stp_e hf
        refine va_sld X.1 X.2.1 hX hbl hbA hS hi200 dL_law_544 ?_
        refine z_top ev201 ?_
        refine lv_aload_n X.1 X.2.1 dL_law_545 rfl (lv_at hl 0 rfl) ?_
        refine lv_iload_n X.1 X.2.1 dL_law_546 rfl (lv_at hl 3 rfl) ?_
        refine lv_iconst (v := 2) X.1 X.2.1 dL_law_547 (by decide) ?_
        refine lv_iadd X.1 X.2.1 dL_law_548 ?_
        obtain ⟨hi202, hf⟩ := chk_e hf
        obtain ⟨v203, ev203, hf⟩ := stp_e hf
        refine va_sld X.1 X.2.1 hX hbl hbA hS hi202 dL_law_549 ?_
        refine z_top ev203 ?_
        obtain ⟨r204, s205, hc206, hf⟩ := bd2_e hf
        refine z_V (n := 2) (As := [.int v201, .int v203]) (rest := [.int r197]) (ci := 9) (q0 := 0) X hK hN (kX9_knows l D K aM q18_M _ v201 v203 r204 s205 hc206) (bw_VL W26_7 W26_8 W26_9 W1_5 W26_10) rfl ⟨rfl, rfl⟩ (by decide +kernel) rfl ⟨Nat.le_of_ble_eq_true rfl, Nat.le_of_ble_eq_true rfl⟩ hP.rig hD.rig rfl rfl (zj_right hP hD hS hA) hS hl.1 rfl (Nat.le_of_ble_eq_true rfl) dL_law_550 ⟨Nat.le_of_ble_eq_true rfl, Nat.le_of_ble_eq_true rfl⟩ rfl (fun H locs hP hD hS => ?_)
        refine lv_icmp_eq (tgt := 1134) X.1 X.2.1 dL_law_553 (by decide) (fun c207 => ?_) (fun c207 => ?_)
        · have hf := ite_t hf c207
          obtain ⟨w208, ew208, hf⟩ := stp_e hf
          refine lv_iinc (v := w208) (lv' := [(3, .int w208), (0, .ref b), (1, .ref (g 0 0)), (2, .ref (aM 0))]) X.1 X.2.1 dL_law_1134 hl (k := 3) rfl (by rw [ew208]; rfl) (by decide) rfl (fun ls hl => ?_)
          refine lv_goto (tgt := 18) X.1 X.2.1 dL_law_1137 (by decide) ?_
          exact ih _ _ _ _ hf _ _ hP hD hS _ (lv_sub hl [1, 2, 3, 0] rfl)
        · have hf := ite_f hf c207
          refine lv_iconst (v := 0) X.1 X.2.1 dL_law_556 (by decide) ?_
          exact absurd (z_inj1 hf) (by decide)
      have hf := ite_f hf c192
      by_cases c209 : (v3 &&& 31) = 14
      · have hf := ite_t hf c209
        refine lv_tableIn (tgt := 558) X.1 X.2.1 dL_law_33 (by rw [c209]; decide) (by rw [c209]; decide) (by rw [c209]; rfl) (by decide) ?_
        refine lv_aload_n X.1 X.2.1 dL_law_558 rfl (lv_at hl 1 rfl) ?_
        refine lv_aload_n X.1 X.2.1 dL_law_559 rfl (lv_at hl 0 rfl) ?_
        refine lv_iload_n X.1 X.2.1 dL_law_560 rfl (lv_at hl 3 rfl) ?_
        refine lv_iconst (v := 1) X.1 X.2.1 dL_law_561 (by decide) ?_
        refine lv_iadd X.1 X.2.1 dL_law_562 ?_
        obtain ⟨hi210, hf⟩ := chk_e hf
        obtain ⟨v211, ev211, hf⟩ := stp_e hf
        refine va_sld X.1 X.2.1 hX hbl hbA hS hi210 dL_law_563 ?_
        refine z_top ev211 ?_
        obtain ⟨r212, z213, hc214, hf⟩ := bd2_e hf
        refine z_V (n := 1) (As := [.int v211]) (rest := []) (ci := 8) (q0 := 0) X hK hN (kX8_more l D K g q18_Z q18_ZL _ v211 r212 z213 hc214) (bw_VL W26_15 W26_16 W26_17 W1_2 W26_18) rfl ⟨rfl, rfl⟩ (by decide +kernel) rfl ⟨Nat.le_of_ble_eq_true rfl, Nat.le_of_ble_eq_true rfl⟩ hP.lef hD.lef rfl rfl (zj_left hP hD hS hA) hS hl.1 rfl (Nat.le_of_ble_eq_true rfl) dL_law_564 ⟨Nat.le_of_ble_eq_true rfl, Nat.le_of_ble_eq_true rfl⟩ rfl (fun H locs hP hD hS => ?_)
        refine lv_aload_n X.1 X.2.1 dL_law_567 rfl (lv_at hl 2 rfl) ?_
        refine lv_aload_n X.1 X.2.1 dL_law_568 rfl (lv_at hl 0 rfl) ?_
        refine lv_iload_n X.1 X.2.1 dL_law_569 rfl (lv_at hl 3 rfl) ?_
        refine lv_iconst (v := 1) X.1 X.2.1 dL_law_570 (by decide) ?_
        refine lv_iadd X.1 X.2.1 dL_law_571 ?_
        obtain ⟨hi215, hf⟩ := chk_e hf
        obtain ⟨v216, ev216, hf⟩ := stp_e hf
        refine va_sld X.1 X.2.1 hX hbl hbA hS hi215 dL_law_572 ?_
        refine z_top ev216 ?_
        obtain ⟨r217, s218, hc219, hf⟩ := bd2_e hf
        refine z_V (n := 1) (As := [.int v216]) (rest := [.int r212]) (ci := 9) (q0 := 0) X hK hN (kX9_more l D K aM q18_M _ v216 r217 s218 hc219) (bw_VL W28_6 W28_7 W28_8 W1_5 W28_9) rfl ⟨rfl, rfl⟩ (by decide +kernel) rfl ⟨Nat.le_of_ble_eq_true rfl, Nat.le_of_ble_eq_true rfl⟩ hP.rig hD.rig rfl rfl (zj_right hP hD hS hA) hS hl.1 rfl (Nat.le_of_ble_eq_true rfl) dL_law_573 ⟨Nat.le_of_ble_eq_true rfl, Nat.le_of_ble_eq_true rfl⟩ rfl (fun H locs hP hD hS => ?_)
        refine lv_icmp_eq (tgt := 1134) X.1 X.2.1 dL_law_576 (by decide) (fun c220 => ?_) (fun c220 => ?_)
        · have hf := ite_t hf c220
          obtain ⟨w221, ew221, hf⟩ := stp_e hf
          refine lv_iinc (v := w221) (lv' := [(3, .int w221), (0, .ref b), (1, .ref (g 0 0)), (2, .ref (aM 0))]) X.1 X.2.1 dL_law_1134 hl (k := 3) rfl (by rw [ew221]; rfl) (by decide) rfl (fun ls hl => ?_)
          refine lv_goto (tgt := 18) X.1 X.2.1 dL_law_1137 (by decide) ?_
          exact ih _ _ _ _ hf _ _ hP hD hS _ (lv_sub hl [1, 2, 3, 0] rfl)
        · have hf := ite_f hf c220
          refine lv_iconst (v := 0) X.1 X.2.1 dL_law_579 (by decide) ?_
          exact absurd (z_inj1 hf) (by decide)
      have hf := ite_f hf c209
      by_cases c222 : (v3 &&& 31) = 15
      · have hf := ite_t hf c222
        refine lv_tableIn (tgt := 581) X.1 X.2.1 dL_law_33 (by rw [c222]; decide) (by rw [c222]; decide) (by rw [c222]; rfl) (by decide) ?_
        refine lv_aload_n X.1 X.2.1 dL_law_581 rfl (lv_at hl 1 rfl) ?_
        refine lv_aload_n X.1 X.2.1 dL_law_582 rfl (lv_at hl 0 rfl) ?_
        refine lv_iload_n X.1 X.2.1 dL_law_583 rfl (lv_at hl 3 rfl) ?_
        refine lv_iconst (v := 1) X.1 X.2.1 dL_law_584 (by decide) ?_
        refine lv_iadd X.1 X.2.1 dL_law_585 ?_
        obtain ⟨hi223, hf⟩ := chk_e hf
        obtain ⟨v224, ev224, hf⟩ := stp_e hf
        refine va_sld X.1 X.2.1 hX hbl hbA hS hi223 dL_law_586 ?_
        refine z_top ev224 ?_
        refine lv_aload_n X.1 X.2.1 dL_law_587 rfl (lv_at hl 0 rfl) ?_
        refine lv_iload_n X.1 X.2.1 dL_law_588 rfl (lv_at hl 3 rfl) ?_
        refine lv_iconst (v := 2) X.1 X.2.1 dL_law_589 (by decide) ?_
        refine lv_iadd X.1 X.2.1 dL_law_590 ?_
        obtain ⟨hi225, hf⟩ := chk_e hf
        obtain ⟨v226, ev226, hf⟩ := stp_e hf
        refine va_sld X.1 X.2.1 hX hbl hbA hS hi225 dL_law_591 ?_
        refine z_top ev226 ?_
        refine lv_aload_n X.1 X.2.1 dL_law_592 rfl (lv_at hl 0 rfl) ?_
        refine lv_iload_n X.1 X.2.1 dL_law_593 rfl (lv_at hl 3 rfl) ?_
        refine lv_iconst (v := 3) X.1 X.2.1 dL_law_594 (by decide) ?_
        refine lv_iadd X.1 X.2.1 dL_law_595 ?_
        obtain ⟨hi227, hf⟩ := chk_e hf
        obtain ⟨v228, ev228, hf⟩ := stp_e hf
        refine va_sld X.1 X.2.1 hX hbl hbA hS hi227 dL_law_596 ?_
        refine z_top ev228 ?_
        obtain ⟨r229, z230, y231, hc232, hf⟩ := bd3_e hf
        refine z_V (n := 3) (As := [.int v224, .int v226, .int v228]) (rest := []) (ci := 8) (q0 := 0) X hK hN (kX8_leave l D K g q18_Z q18_ZL _ v224 v226 v228 r229 z230 y231 hc232) (bw_VL W28_22 W28_23 W29_0 W1_2 W29_1) rfl ⟨rfl, rfl⟩ (by decide +kernel) rfl ⟨Nat.le_of_ble_eq_true rfl, Nat.le_of_ble_eq_true rfl⟩ hP.lef hD.lef rfl rfl (zj_left hP hD hS hA) hS hl.1 rfl (Nat.le_of_ble_eq_true rfl) dL_law_597 ⟨Nat.le_of_ble_eq_true rfl, Nat.le_of_ble_eq_true rfl⟩ rfl (fun H locs hP hD hS => ?_)
        refine lv_aload_n X.1 X.2.1 dL_law_600 rfl (lv_at hl 2 rfl) ?_
        refine lv_aload_n X.1 X.2.1 dL_law_601 rfl (lv_at hl 0 rfl) ?_
        refine lv_iload_n X.1 X.2.1 dL_law_602 rfl (lv_at hl 3 rfl) ?_
        refine lv_iconst (v := 1) X.1 X.2.1 dL_law_603 (by decide) ?_
        refine lv_iadd X.1 X.2.1 dL_law_604 ?_
        obtain ⟨hi233, hf⟩ := chk_e hf
        obtain ⟨v234, ev234, hf⟩ := stp_e hf
        refine va_sld X.1 X.2.1 hX hbl hbA hS hi233 dL_law_605 ?_
        refine z_top ev234 ?_
        refine lv_aload_n X.1 X.2.1 dL_law_606 rfl (lv_at hl 0 rfl) ?_
        refine lv_iload_n X.1 X.2.1 dL_law_607 rfl (lv_at hl 3 rfl) ?_
        refine lv_iconst (v := 2) X.1 X.2.1 dL_law_608 (by decide) ?_
        refine lv_iadd X.1 X.2.1 dL_law_609 ?_
        obtain ⟨hi235, hf⟩ := chk_e hf
        obtain ⟨v236, ev236, hf⟩ := stp_e hf
        refine va_sld X.1 X.2.1 hX hbl hbA hS hi235 dL_law_610 ?_
        refine z_top ev236 ?_
        refine lv_aload_n X.1 X.2.1 dL_law_611 rfl (lv_at hl 0 rfl) ?_
        refine lv_iload_n X.1 X.2.1 dL_law_612 rfl (lv_at hl 3 rfl) ?_
        refine lv_iconst (v := 3) X.1 X.2.1 dL_law_613 (by decide) ?_
        refine lv_iadd X.1 X.2.1 dL_law_614 ?_
        obtain ⟨hi237, hf⟩ := chk_e hf
        obtain ⟨v238, ev238, hf⟩ := stp_e hf
        refine va_sld X.1 X.2.1 hX hbl hbA hS hi237 dL_law_615 ?_
        refine z_top ev238 ?_
        obtain ⟨r239, s240, hc241, hf⟩ := bd2_e hf
        refine z_V (n := 3) (As := [.int v234, .int v236, .int v238]) (rest := [.int r229]) (ci := 9) (q0 := 0) X hK hN (kX9_leave l D K aM q18_M _ v234 v236 v238 r239 s240 hc241) (bw_VL W29_16 W29_17 W29_18 W1_5 W29_19) rfl ⟨rfl, rfl⟩ (by decide +kernel) rfl ⟨Nat.le_of_ble_eq_true rfl, Nat.le_of_ble_eq_true rfl⟩ hP.rig hD.rig rfl rfl (zj_right hP hD hS hA) hS hl.1 rfl (Nat.le_of_ble_eq_true rfl) dL_law_616 ⟨Nat.le_of_ble_eq_true rfl, Nat.le_of_ble_eq_true rfl⟩ rfl (fun H locs hP hD hS => ?_)
        refine lv_icmp_eq (tgt := 1134) X.1 X.2.1 dL_law_619 (by decide) (fun c242 => ?_) (fun c242 => ?_)
        · have hf := ite_t hf c242
          obtain ⟨w243, ew243, hf⟩ := stp_e hf
          refine lv_iinc (v := w243) (lv' := [(3, .int w243), (0, .ref b), (1, .ref (g 0 0)), (2, .ref (aM 0))]) X.1 X.2.1 dL_law_1134 hl (k := 3) rfl (by rw [ew243]; rfl) (by decide) rfl (fun ls hl => ?_)
          refine lv_goto (tgt := 18) X.1 X.2.1 dL_law_1137 (by decide) ?_
          exact ih _ _ _ _ hf _ _ hP hD hS _ (lv_sub hl [1, 2, 3, 0] rfl)
        · have hf := ite_f hf c242
          refine lv_iconst (v := 0) X.1 X.2.1 dL_law_622 (by decide) ?_
          exact absurd (z_inj1 hf) (by decide)
      have hf := ite_f hf c222
      by_cases c244 : (v3 &&& 31) = 16
      · have hf := ite_t hf c244
        refine lv_tableIn (tgt := 624) X.1 X.2.1 dL_law_33 (by rw [c244]; decide) (by rw [c244]; decide) (by rw [c244]; rfl) (by decide) ?_
        refine lv_aload_n X.1 X.2.1 dL_law_624 rfl (lv_at hl 1 rfl) ?_
        refine lv_aload_n X.1 X.2.1 dL_law_625 rfl (lv_at hl 0 rfl) ?_
        refine lv_iload_n X.1 X.2.1 dL_law_626 rfl (lv_at hl 3 rfl) ?_
        refine lv_iconst (v := 1) X.1 X.2.1 dL_law_627 (by decide) ?_
        refine lv_iadd X.1 X.2.1 dL_law_628 ?_
        obtain ⟨hi245, hf⟩ := chk_e hf
        obtain ⟨v246, ev246, hf⟩ := stp_e hf
        refine va_sld X.1 X.2.1 hX hbl hbA hS hi245 dL_law_629 ?_
        refine z_top ev246 ?_
        refine lv_aload_n X.1 X.2.1 dL_law_630 rfl (lv_at hl 0 rfl) ?_
        refine lv_iload_n X.1 X.2.1 dL_law_631 rfl (lv_at hl 3 rfl) ?_
        refine lv_iconst (v := 2) X.1 X.2.1 dL_law_632 (by decide) ?_
        refine lv_iadd X.1 X.2.1 dL_law_633 ?_
        obtain ⟨hi247, hf⟩ := chk_e hf
        obtain ⟨v248, ev248, hf⟩ := stp_e hf
        refine va_sld X.1 X.2.1 hX hbl hbA hS hi247 dL_law_634 ?_
        refine z_top ev248 ?_
        obtain ⟨r249, z250, hc251, hf⟩ := bd2_e hf
        refine z_V (n := 2) (As := [.int v246, .int v248]) (rest := []) (ci := 8) (q0 := 0) X hK hN (kX8_seen l D K g q18_Z q18_ZL _ v246 v248 r249 z250 hc251) (bw_VL W30_4 W30_5 W30_6 W1_2 W30_7) rfl ⟨rfl, rfl⟩ (by decide +kernel) rfl ⟨Nat.le_of_ble_eq_true rfl, Nat.le_of_ble_eq_true rfl⟩ hP.lef hD.lef rfl rfl (zj_left hP hD hS hA) hS hl.1 rfl (Nat.le_of_ble_eq_true rfl) dL_law_635 ⟨Nat.le_of_ble_eq_true rfl, Nat.le_of_ble_eq_true rfl⟩ rfl (fun H locs hP hD hS => ?_)
        refine lv_aload_n X.1 X.2.1 dL_law_638 rfl (lv_at hl 2 rfl) ?_
        refine lv_aload_n X.1 X.2.1 dL_law_639 rfl (lv_at hl 0 rfl) ?_
        refine lv_iload_n X.1 X.2.1 dL_law_640 rfl (lv_at hl 3 rfl) ?_
        refine lv_iconst (v := 1) X.1 X.2.1 dL_law_641 (by decide) ?_
        refine lv_iadd X.1 X.2.1 dL_law_642 ?_
        obtain ⟨hi252, hf⟩ := chk_e hf
        obtain ⟨v253, ev253, hf⟩ := stp_e hf
        refine va_sld X.1 X.2.1 hX hbl hbA hS hi252 dL_law_643 ?_
        refine z_top ev253 ?_
        refine lv_aload_n X.1 X.2.1 dL_law_644 rfl (lv_at hl 0 rfl) ?_
        refine lv_iload_n X.1 X.2.1 dL_law_645 rfl (lv_at hl 3 rfl) ?_
        refine lv_iconst (v := 2) X.1 X.2.1 dL_law_646 (by decide) ?_
        refine lv_iadd X.1 X.2.1 dL_law_647 ?_
        obtain ⟨hi254, hf⟩ := chk_e hf
        obtain ⟨v255, ev255, hf⟩ := stp_e hf
        refine va_sld X.1 X.2.1 hX hbl hbA hS hi254 dL_law_648 ?_
        refine z_top ev255 ?_
        obtain ⟨r256, s257, hc258, hf⟩ := bd2_e hf
        refine z_V (n := 2) (As := [.int v253, .int v255]) (rest := [.int r249]) (ci := 9) (q0 := 0) X hK hN (kX9_seen l D K aM q18_M _ v253 v255 r256 s257 hc258) (bw_VL W30_17 W30_18 W30_19 W1_5 W30_20) rfl ⟨rfl, rfl⟩ (by decide +kernel) rfl ⟨Nat.le_of_ble_eq_true rfl, Nat.le_of_ble_eq_true rfl⟩ hP.rig hD.rig rfl rfl (zj_right hP hD hS hA) hS hl.1 rfl (Nat.le_of_ble_eq_true rfl) dL_law_649 ⟨Nat.le_of_ble_eq_true rfl, Nat.le_of_ble_eq_true rfl⟩ rfl (fun H locs hP hD hS => ?_)
        refine lv_icmp_eq (tgt := 1134) X.1 X.2.1 dL_law_652 (by decide) (fun c259 => ?_) (fun c259 => ?_)
        · have hf := ite_t hf c259
          obtain ⟨w260, ew260, hf⟩ := stp_e hf
          refine lv_iinc (v := w260) (lv' := [(3, .int w260), (0, .ref b), (1, .ref (g 0 0)), (2, .ref (aM 0))]) X.1 X.2.1 dL_law_1134 hl (k := 3) rfl (by rw [ew260]; rfl) (by decide) rfl (fun ls hl => ?_)
          refine lv_goto (tgt := 18) X.1 X.2.1 dL_law_1137 (by decide) ?_
          exact ih _ _ _ _ hf _ _ hP hD hS _ (lv_sub hl [1, 2, 3, 0] rfl)
        · have hf := ite_f hf c259
          refine lv_iconst (v := 0) X.1 X.2.1 dL_law_655 (by decide) ?_
          exact absurd (z_inj1 hf) (by decide)
      have hf := ite_f hf c244
      by_cases c261 : (v3 &&& 31) = 17
      · have hf := ite_t hf c261
        refine lv_tableIn (tgt := 657) X.1 X.2.1 dL_law_33 (by rw [c261]; decide) (by rw [c261]; decide) (by rw [c261]; rfl) (by decide) ?_
        refine lv_aload_n X.1 X.2.1 dL_law_657 rfl (lv_at hl 1 rfl) ?_
        obtain ⟨r262, z263, hc264, hf⟩ := bd2_e hf
        refine z_V (n := 0) (As := []) (rest := []) (ci := 8) (q0 := 0) X hK hN (kX8_forget l D K g q18_Z q18_ZL _ r262 z263 hc264) (bw_VL W30_22 W30_23 W31_0 W1_2 W31_1) rfl ⟨rfl, rfl⟩ (by decide +kernel) rfl ⟨Nat.le_of_ble_eq_true rfl, Nat.le_of_ble_eq_true rfl⟩ hP.lef hD.lef rfl rfl (zj_left hP hD hS hA) hS hl.1 rfl (Nat.le_of_ble_eq_true rfl) dL_law_658 ⟨Nat.le_of_ble_eq_true rfl, Nat.le_of_ble_eq_true rfl⟩ rfl (fun H locs hP hD hS => ?_)
        refine lv_aload_n X.1 X.2.1 dL_law_661 rfl (lv_at hl 2 rfl) ?_
        obtain ⟨r265, s266, hc267, hf⟩ := bd2_e hf
        refine z_V (n := 0) (As := []) (rest := [.int r262]) (ci := 9) (q0 := 0) X hK hN (kX9_forget l D K aM q18_M _ r265 s266 hc267) (bw_VL W31_2 W31_3 W31_4 W1_5 W31_5) rfl ⟨rfl, rfl⟩ (by decide +kernel) rfl ⟨Nat.le_of_ble_eq_true rfl, Nat.le_of_ble_eq_true rfl⟩ hP.rig hD.rig rfl rfl (zj_right hP hD hS hA) hS hl.1 rfl (Nat.le_of_ble_eq_true rfl) dL_law_662 ⟨Nat.le_of_ble_eq_true rfl, Nat.le_of_ble_eq_true rfl⟩ rfl (fun H locs hP hD hS => ?_)
        refine lv_icmp_eq (tgt := 1134) X.1 X.2.1 dL_law_665 (by decide) (fun c268 => ?_) (fun c268 => ?_)
        · have hf := ite_t hf c268
          obtain ⟨w269, ew269, hf⟩ := stp_e hf
          refine lv_iinc (v := w269) (lv' := [(3, .int w269), (0, .ref b), (1, .ref (g 0 0)), (2, .ref (aM 0))]) X.1 X.2.1 dL_law_1134 hl (k := 3) rfl (by rw [ew269]; rfl) (by decide) rfl (fun ls hl => ?_)
          refine lv_goto (tgt := 18) X.1 X.2.1 dL_law_1137 (by decide) ?_
          exact ih _ _ _ _ hf _ _ hP hD hS _ (lv_sub hl [1, 2, 3, 0] rfl)
        · have hf := ite_f hf c268
          refine lv_iconst (v := 0) X.1 X.2.1 dL_law_668 (by decide) ?_
          exact absurd (z_inj1 hf) (by decide)
      have hf := ite_f hf c261
      by_cases c270 : (v3 &&& 31) = 18
      · have hf := ite_t hf c270
        refine lv_tableIn (tgt := 670) X.1 X.2.1 dL_law_33 (by rw [c270]; decide) (by rw [c270]; decide) (by rw [c270]; rfl) (by decide) ?_
        refine lv_aload_n X.1 X.2.1 dL_law_670 rfl (lv_at hl 1 rfl) ?_
        refine lv_aload_n X.1 X.2.1 dL_law_671 rfl (lv_at hl 0 rfl) ?_
        refine lv_iload_n X.1 X.2.1 dL_law_672 rfl (lv_at hl 3 rfl) ?_
        refine lv_iconst (v := 1) X.1 X.2.1 dL_law_673 (by decide) ?_
        refine lv_iadd X.1 X.2.1 dL_law_674 ?_
        obtain ⟨hi271, hf⟩ := chk_e hf
        obtain ⟨v272, ev272, hf⟩ := stp_e hf
        refine va_sld X.1 X.2.1 hX hbl hbA hS hi271 dL_law_675 ?_
        refine z_top ev272 ?_
        obtain ⟨r273, z274, hc275, hf⟩ := bd2_e hf
        refine z_V (n := 1) (As := [.int v272]) (rest := []) (ci := 8) (q0 := 0) X hK hN (kX8_read l D K g q18_Z q18_ZL _ v272 r273 z274 hc275) (bw_VL W31_6 W31_7 W31_8 W1_2 W31_9) rfl ⟨rfl, rfl⟩ (by decide +kernel) rfl ⟨Nat.le_of_ble_eq_true rfl, Nat.le_of_ble_eq_true rfl⟩ hP.lef hD.lef rfl rfl (zj_left hP hD hS hA) hS hl.1 rfl (Nat.le_of_ble_eq_true rfl) dL_law_676 ⟨Nat.le_of_ble_eq_true rfl, Nat.le_of_ble_eq_true rfl⟩ rfl (fun H locs hP hD hS => ?_)
        refine lv_aload_n X.1 X.2.1 dL_law_679 rfl (lv_at hl 2 rfl) ?_
        refine lv_aload_n X.1 X.2.1 dL_law_680 rfl (lv_at hl 0 rfl) ?_
        refine lv_iload_n X.1 X.2.1 dL_law_681 rfl (lv_at hl 3 rfl) ?_
        refine lv_iconst (v := 1) X.1 X.2.1 dL_law_682 (by decide) ?_
        refine lv_iadd X.1 X.2.1 dL_law_683 ?_
        obtain ⟨hi276, hf⟩ := chk_e hf
        obtain ⟨v277, ev277, hf⟩ := stp_e hf
        refine va_sld X.1 X.2.1 hX hbl hbA hS hi276 dL_law_684 ?_
        refine z_top ev277 ?_
        obtain ⟨r278, s279, hc280, hf⟩ := bd2_e hf
        refine z_V (n := 1) (As := [.int v277]) (rest := [.int r273]) (ci := 9) (q0 := 0) X hK hN (kX9_read l D K aM q18_M _ v277 r278 s279 hc280) (bw_VL W31_20 W31_21 W31_22 W1_5 W31_23) rfl ⟨rfl, rfl⟩ (by decide +kernel) rfl ⟨Nat.le_of_ble_eq_true rfl, Nat.le_of_ble_eq_true rfl⟩ hP.rig hD.rig rfl rfl (zj_right hP hD hS hA) hS hl.1 rfl (Nat.le_of_ble_eq_true rfl) dL_law_685 ⟨Nat.le_of_ble_eq_true rfl, Nat.le_of_ble_eq_true rfl⟩ rfl (fun H locs hP hD hS => ?_)
        refine lv_icmp_eq (tgt := 1134) X.1 X.2.1 dL_law_688 (by decide) (fun c281 => ?_) (fun c281 => ?_)
        · have hf := ite_t hf c281
          obtain ⟨w282, ew282, hf⟩ := stp_e hf
          refine lv_iinc (v := w282) (lv' := [(3, .int w282), (0, .ref b), (1, .ref (g 0 0)), (2, .ref (aM 0))]) X.1 X.2.1 dL_law_1134 hl (k := 3) rfl (by rw [ew282]; rfl) (by decide) rfl (fun ls hl => ?_)
          refine lv_goto (tgt := 18) X.1 X.2.1 dL_law_1137 (by decide) ?_
          exact ih _ _ _ _ hf _ _ hP hD hS _ (lv_sub hl [1, 2, 3, 0] rfl)
        · have hf := ite_f hf c281
          refine lv_iconst (v := 0) X.1 X.2.1 dL_law_691 (by decide) ?_
          exact absurd (z_inj1 hf) (by decide)
      have hf := ite_f hf c270
      by_cases c283 : (v3 &&& 31) = 19
      · have hf := ite_t hf c283
        refine lv_tableIn (tgt := 693) X.1 X.2.1 dL_law_33 (by rw [c283]; decide) (by rw [c283]; decide) (by rw [c283]; rfl) (by decide) ?_
        refine lv_aload_n X.1 X.2.1 dL_law_693 rfl (lv_at hl 1 rfl) ?_
        obtain ⟨r284, z285, hc286, hf⟩ := bd2_e hf
        refine z_V (n := 0) (As := []) (rest := []) (ci := 8) (q0 := 0) X hK hN (kX8_never l D K g q18_Z q18_ZL _ r284 z285 hc286) (bw_VL W32_9 W32_10 W32_11 W1_2 W32_12) rfl ⟨rfl, rfl⟩ (by decide +kernel) rfl ⟨Nat.le_of_ble_eq_true rfl, Nat.le_of_ble_eq_true rfl⟩ hP.lef hD.lef rfl rfl (zj_left hP hD hS hA) hS hl.1 rfl (Nat.le_of_ble_eq_true rfl) dL_law_694 ⟨Nat.le_of_ble_eq_true rfl, Nat.le_of_ble_eq_true rfl⟩ rfl (fun H locs hP hD hS => ?_)
        refine lv_aload_n X.1 X.2.1 dL_law_697 rfl (lv_at hl 2 rfl) ?_
        obtain ⟨r287, s288, hc289, hf⟩ := bd2_e hf
        refine z_V (n := 0) (As := []) (rest := [.int r284]) (ci := 9) (q0 := 0) X hK hN (kX9_never l D K aM q18_M _ r287 s288 hc289) (bw_VL W33_7 W33_8 W33_9 W1_5 W33_10) rfl ⟨rfl, rfl⟩ (by decide +kernel) rfl ⟨Nat.le_of_ble_eq_true rfl, Nat.le_of_ble_eq_true rfl⟩ hP.rig hD.rig rfl rfl (zj_right hP hD hS hA) hS hl.1 rfl (Nat.le_of_ble_eq_true rfl) dL_law_698 ⟨Nat.le_of_ble_eq_true rfl, Nat.le_of_ble_eq_true rfl⟩ rfl (fun H locs hP hD hS => ?_)
        refine lv_icmp_eq (tgt := 1134) X.1 X.2.1 dL_law_701 (by decide) (fun c290 => ?_) (fun c290 => ?_)
        · have hf := ite_t hf c290
          obtain ⟨w291, ew291, hf⟩ := stp_e hf
          refine lv_iinc (v := w291) (lv' := [(3, .int w291), (0, .ref b), (1, .ref (g 0 0)), (2, .ref (aM 0))]) X.1 X.2.1 dL_law_1134 hl (k := 3) rfl (by rw [ew291]; rfl) (by decide) rfl (fun ls hl => ?_)
          refine lv_goto (tgt := 18) X.1 X.2.1 dL_law_1137 (by decide) ?_
          exact ih _ _ _ _ hf _ _ hP hD hS _ (lv_sub hl [1, 2, 3, 0] rfl)
        · have hf := ite_f hf c290
          refine lv_iconst (v := 0) X.1 X.2.1 dL_law_704 (by decide) ?_
          exact absurd (z_inj1 hf) (by decide)
      have hf := ite_f hf c283
      by_cases c292 : (v3 &&& 31) = 20
      · have hf := ite_t hf c292
        refine lv_tableIn (tgt := 706) X.1 X.2.1 dL_law_33 (by rw [c292]; decide) (by rw [c292]; decide) (by rw [c292]; rfl) (by decide) ?_
        refine lv_aload_n X.1 X.2.1 dL_law_706 rfl (lv_at hl 1 rfl) ?_
        refine lv_aload_n X.1 X.2.1 dL_law_707 rfl (lv_at hl 0 rfl) ?_
        refine lv_iload_n X.1 X.2.1 dL_law_708 rfl (lv_at hl 3 rfl) ?_
        refine lv_iconst (v := 1) X.1 X.2.1 dL_law_709 (by decide) ?_
        refine lv_iadd X.1 X.2.1 dL_law_710 ?_
        obtain ⟨hi293, hf⟩ := chk_e hf
        obtain ⟨v294, ev294, hf⟩ := stp_e hf
        refine va_sld X.1 X.2.1 hX hbl hbA hS hi293 dL_law_711 ?_
        refine z_top ev294 ?_
        obtain ⟨r295, z296, hc297, hf⟩ := bd2_e hf
        refine z_V (n := 1) (As := [.int v294]) (rest := []) (ci := 8) (q0 := 0) X hK hN (kX8_who l D K g q18_Z q18_ZL _ v294 r295 z296 hc297) (bw_VL W33_23 W34_0 W34_1 W1_2 W34_2) rfl ⟨rfl, rfl⟩ (by decide +kernel) rfl ⟨Nat.le_of_ble_eq_true rfl, Nat.le_of_ble_eq_true rfl⟩ hP.lef hD.lef rfl rfl (zj_left hP hD hS hA) hS hl.1 rfl (Nat.le_of_ble_eq_true rfl) dL_law_712 ⟨Nat.le_of_ble_eq_true rfl, Nat.le_of_ble_eq_true rfl⟩ rfl (fun H locs hP hD hS => ?_)
        refine lv_aload_n X.1 X.2.1 dL_law_715 rfl (lv_at hl 2 rfl) ?_
        refine lv_aload_n X.1 X.2.1 dL_law_716 rfl (lv_at hl 0 rfl) ?_
        refine lv_iload_n X.1 X.2.1 dL_law_717 rfl (lv_at hl 3 rfl) ?_
        refine lv_iconst (v := 1) X.1 X.2.1 dL_law_718 (by decide) ?_
        refine lv_iadd X.1 X.2.1 dL_law_719 ?_
        obtain ⟨hi298, hf⟩ := chk_e hf
        obtain ⟨v299, ev299, hf⟩ := stp_e hf
        refine va_sld X.1 X.2.1 hX hbl hbA hS hi298 dL_law_720 ?_
        refine z_top ev299 ?_
        obtain ⟨r300, s301, hc302, hf⟩ := bd2_e hf
        refine z_V (n := 1) (As := [.int v299]) (rest := [.int r295]) (ci := 9) (q0 := 0) X hK hN (kX9_who l D K aM q18_M _ v299 r300 s301 hc302) (bw_VL W34_9 W34_10 W34_11 W1_5 W34_12) rfl ⟨rfl, rfl⟩ (by decide +kernel) rfl ⟨Nat.le_of_ble_eq_true rfl, Nat.le_of_ble_eq_true rfl⟩ hP.rig hD.rig rfl rfl (zj_right hP hD hS hA) hS hl.1 rfl (Nat.le_of_ble_eq_true rfl) dL_law_721 ⟨Nat.le_of_ble_eq_true rfl, Nat.le_of_ble_eq_true rfl⟩ rfl (fun H locs hP hD hS => ?_)
        refine lv_icmp_eq (tgt := 1134) X.1 X.2.1 dL_law_724 (by decide) (fun c303 => ?_) (fun c303 => ?_)
        · have hf := ite_t hf c303
          obtain ⟨w304, ew304, hf⟩ := stp_e hf
          refine lv_iinc (v := w304) (lv' := [(3, .int w304), (0, .ref b), (1, .ref (g 0 0)), (2, .ref (aM 0))]) X.1 X.2.1 dL_law_1134 hl (k := 3) rfl (by rw [ew304]; rfl) (by decide) rfl (fun ls hl => ?_)
          refine lv_goto (tgt := 18) X.1 X.2.1 dL_law_1137 (by decide) ?_
          exact ih _ _ _ _ hf _ _ hP hD hS _ (lv_sub hl [1, 2, 3, 0] rfl)
        · have hf := ite_f hf c303
          refine lv_iconst (v := 0) X.1 X.2.1 dL_law_727 (by decide) ?_
          exact absurd (z_inj1 hf) (by decide)
      have hf := ite_f hf c292
      by_cases c305 : (v3 &&& 31) = 21
      · have hf := ite_t hf c305
        refine lv_tableIn (tgt := 729) X.1 X.2.1 dL_law_33 (by rw [c305]; decide) (by rw [c305]; decide) (by rw [c305]; rfl) (by decide) ?_
        refine lv_aload_n X.1 X.2.1 dL_law_729 rfl (lv_at hl 1 rfl) ?_
        obtain ⟨r306, z307, hc308, hf⟩ := bd2_e hf
        refine z_V (n := 0) (As := []) (rest := []) (ci := 8) (q0 := 0) X hK hN (kX8_weigh l D K g q18_Z q18_ZL _ r306 z307 hc308) (bw_VL W34_17 W34_18 W34_19 W1_2 W34_20) rfl ⟨rfl, rfl⟩ (by decide +kernel) rfl ⟨Nat.le_of_ble_eq_true rfl, Nat.le_of_ble_eq_true rfl⟩ hP.lef hD.lef rfl rfl (zj_left hP hD hS hA) hS hl.1 rfl (Nat.le_of_ble_eq_true rfl) dL_law_730 ⟨Nat.le_of_ble_eq_true rfl, Nat.le_of_ble_eq_true rfl⟩ rfl (fun H locs hP hD hS => ?_)
        refine lv_aload_n X.1 X.2.1 dL_law_733 rfl (lv_at hl 2 rfl) ?_
        obtain ⟨r309, s310, hc311, hf⟩ := bd2_e hf
        refine z_V (n := 0) (As := []) (rest := [.int r306]) (ci := 9) (q0 := 0) X hK hN (kX9_weigh l D K aM q18_M _ r309 s310 hc311) (bw_VL W35_15 W35_16 W35_17 W1_5 W35_18) rfl ⟨rfl, rfl⟩ (by decide +kernel) rfl ⟨Nat.le_of_ble_eq_true rfl, Nat.le_of_ble_eq_true rfl⟩ hP.rig hD.rig rfl rfl (zj_right hP hD hS hA) hS hl.1 rfl (Nat.le_of_ble_eq_true rfl) dL_law_734 ⟨Nat.le_of_ble_eq_true rfl, Nat.le_of_ble_eq_true rfl⟩ rfl (fun H locs hP hD hS => ?_)
        refine lv_icmp_eq (tgt := 1134) X.1 X.2.1 dL_law_737 (by decide) (fun c312 => ?_) (fun c312 => ?_)
        · have hf := ite_t hf c312
          obtain ⟨w313, ew313, hf⟩ := stp_e hf
          refine lv_iinc (v := w313) (lv' := [(3, .int w313), (0, .ref b), (1, .ref (g 0 0)), (2, .ref (aM 0))]) X.1 X.2.1 dL_law_1134 hl (k := 3) rfl (by rw [ew313]; rfl) (by decide) rfl (fun ls hl => ?_)
          refine lv_goto (tgt := 18) X.1 X.2.1 dL_law_1137 (by decide) ?_
          exact ih _ _ _ _ hf _ _ hP hD hS _ (lv_sub hl [1, 2, 3, 0] rfl)
        · have hf := ite_f hf c312
          refine lv_iconst (v := 0) X.1 X.2.1 dL_law_740 (by decide) ?_
          exact absurd (z_inj1 hf) (by decide)
      have hf := ite_f hf c305
      by_cases c314 : (v3 &&& 31) = 22
      · have hf := ite_t hf c314
        refine lv_tableIn (tgt := 742) X.1 X.2.1 dL_law_33 (by rw [c314]; decide) (by rw [c314]; decide) (by rw [c314]; rfl) (by decide) ?_
        refine lv_aload_n X.1 X.2.1 dL_law_742 rfl (lv_at hl 1 rfl) ?_
        refine lv_aload_n X.1 X.2.1 dL_law_743 rfl (lv_at hl 0 rfl) ?_
        refine lv_iload_n X.1 X.2.1 dL_law_744 rfl (lv_at hl 3 rfl) ?_
        refine lv_iconst (v := 1) X.1 X.2.1 dL_law_745 (by decide) ?_
        refine lv_iadd X.1 X.2.1 dL_law_746 ?_
        obtain ⟨hi315, hf⟩ := chk_e hf
        obtain ⟨v316, ev316, hf⟩ := stp_e hf
        refine va_sld X.1 X.2.1 hX hbl hbA hS hi315 dL_law_747 ?_
        refine z_top ev316 ?_
        refine lv_aload_n X.1 X.2.1 dL_law_748 rfl (lv_at hl 0 rfl) ?_
        refine lv_iload_n X.1 X.2.1 dL_law_749 rfl (lv_at hl 3 rfl) ?_
        refine lv_iconst (v := 2) X.1 X.2.1 dL_law_750 (by decide) ?_
        refine lv_iadd X.1 X.2.1 dL_law_751 ?_
        obtain ⟨hi317, hf⟩ := chk_e hf
        obtain ⟨v318, ev318, hf⟩ := stp_e hf
        refine va_sld X.1 X.2.1 hX hbl hbA hS hi317 dL_law_752 ?_
        refine z_top ev318 ?_
        refine lv_aload_n X.1 X.2.1 dL_law_753 rfl (lv_at hl 0 rfl) ?_
        refine lv_iload_n X.1 X.2.1 dL_law_754 rfl (lv_at hl 3 rfl) ?_
        refine lv_iconst (v := 3) X.1 X.2.1 dL_law_755 (by decide) ?_
        refine lv_iadd X.1 X.2.1 dL_law_756 ?_
        obtain ⟨hi319, hf⟩ := chk_e hf
        obtain ⟨v320, ev320, hf⟩ := stp_e hf
        refine va_sld X.1 X.2.1 hX hbl hbA hS hi319 dL_law_757 ?_
        refine z_top ev320 ?_
        refine lv_aload_n X.1 X.2.1 dL_law_758 rfl (lv_at hl 0 rfl) ?_
        refine lv_iload_n X.1 X.2.1 dL_law_759 rfl (lv_at hl 3 rfl) ?_
        refine lv_iconst (v := 4) X.1 X.2.1 dL_law_760 (by decide) ?_
        refine lv_iadd X.1 X.2.1 dL_law_761 ?_
        obtain ⟨hi321, hf⟩ := chk_e hf
        obtain ⟨v322, ev322, hf⟩ := stp_e hf
        refine va_sld X.1 X.2.1 hX hbl hbA hS hi321 dL_law_762 ?_
        refine z_top ev322 ?_
        obtain ⟨r323, z324, y325, hc326, hf⟩ := bd3_e hf
        refine z_V (n := 4) (As := [.int v316, .int v318, .int v320, .int v322]) (rest := []) (ci := 8) (q0 := 0) X hK hN (kX8_maybe l D K g q18_Z q18_ZL _ v316 v318 v320 v322 r323 z324 y325 hc326) (bw_VL W35_23 W36_0 W36_1 W1_2 W36_2) rfl ⟨rfl, rfl⟩ (by decide +kernel) rfl ⟨Nat.le_of_ble_eq_true rfl, Nat.le_of_ble_eq_true rfl⟩ hP.lef hD.lef rfl rfl (zj_left hP hD hS hA) hS hl.1 rfl (Nat.le_of_ble_eq_true rfl) dL_law_763 ⟨Nat.le_of_ble_eq_true rfl, Nat.le_of_ble_eq_true rfl⟩ rfl (fun H locs hP hD hS => ?_)
        refine lv_aload_n X.1 X.2.1 dL_law_766 rfl (lv_at hl 2 rfl) ?_
        refine lv_aload_n X.1 X.2.1 dL_law_767 rfl (lv_at hl 0 rfl) ?_
        refine lv_iload_n X.1 X.2.1 dL_law_768 rfl (lv_at hl 3 rfl) ?_
        refine lv_iconst (v := 1) X.1 X.2.1 dL_law_769 (by decide) ?_
        refine lv_iadd X.1 X.2.1 dL_law_770 ?_
        obtain ⟨hi327, hf⟩ := chk_e hf
        obtain ⟨v328, ev328, hf⟩ := stp_e hf
        refine va_sld X.1 X.2.1 hX hbl hbA hS hi327 dL_law_771 ?_
        refine z_top ev328 ?_
        refine lv_aload_n X.1 X.2.1 dL_law_772 rfl (lv_at hl 0 rfl) ?_
        refine lv_iload_n X.1 X.2.1 dL_law_773 rfl (lv_at hl 3 rfl) ?_
        refine lv_iconst (v := 2) X.1 X.2.1 dL_law_774 (by decide) ?_
        refine lv_iadd X.1 X.2.1 dL_law_775 ?_
        obtain ⟨hi329, hf⟩ := chk_e hf
        obtain ⟨v330, ev330, hf⟩ := stp_e hf
        refine va_sld X.1 X.2.1 hX hbl hbA hS hi329 dL_law_776 ?_
        refine z_top ev330 ?_
        refine lv_aload_n X.1 X.2.1 dL_law_777 rfl (lv_at hl 0 rfl) ?_
        refine lv_iload_n X.1 X.2.1 dL_law_778 rfl (lv_at hl 3 rfl) ?_
        refine lv_iconst (v := 3) X.1 X.2.1 dL_law_779 (by decide) ?_
        refine lv_iadd X.1 X.2.1 dL_law_780 ?_
        obtain ⟨hi331, hf⟩ := chk_e hf
        obtain ⟨v332, ev332, hf⟩ := stp_e hf
        refine va_sld X.1 X.2.1 hX hbl hbA hS hi331 dL_law_781 ?_
        refine z_top ev332 ?_
        refine lv_aload_n X.1 X.2.1 dL_law_782 rfl (lv_at hl 0 rfl) ?_
        refine lv_iload_n X.1 X.2.1 dL_law_783 rfl (lv_at hl 3 rfl) ?_
        refine lv_iconst (v := 4) X.1 X.2.1 dL_law_784 (by decide) ?_
        refine lv_iadd X.1 X.2.1 dL_law_785 ?_
        obtain ⟨hi333, hf⟩ := chk_e hf
        obtain ⟨v334, ev334, hf⟩ := stp_e hf
        refine va_sld X.1 X.2.1 hX hbl hbA hS hi333 dL_law_786 ?_
        refine z_top ev334 ?_
        obtain ⟨r335, s336, hc337, hf⟩ := bd2_e hf
        refine z_V (n := 4) (As := [.int v328, .int v330, .int v332, .int v334]) (rest := [.long r323]) (ci := 9) (q0 := 0) X hK hN (kX9_maybe l D K aM q18_M _ v328 v330 v332 v334 r335 s336 hc337) (bw_VL W37_4 W37_5 W37_6 W1_5 W37_7) rfl ⟨rfl, rfl⟩ (by decide +kernel) rfl ⟨Nat.le_of_ble_eq_true rfl, Nat.le_of_ble_eq_true rfl⟩ hP.rig hD.rig rfl rfl (zj_right hP hD hS hA) hS hl.1 rfl (Nat.le_of_ble_eq_true rfl) dL_law_787 ⟨Nat.le_of_ble_eq_true rfl, Nat.le_of_ble_eq_true rfl⟩ rfl (fun H locs hP hD hS => ?_)
        refine W.lcmp X.1 X.2.1 dL_law_790 ?_
        refine lv_if_eq (tgt := 1134) X.1 X.2.1 dL_law_791 (by decide) (fun c338 => ?_) (fun c338 => ?_)
        · have hf := ite_t hf c338
          obtain ⟨w339, ew339, hf⟩ := stp_e hf
          refine lv_iinc (v := w339) (lv' := [(3, .int w339), (0, .ref b), (1, .ref (g 0 0)), (2, .ref (aM 0))]) X.1 X.2.1 dL_law_1134 hl (k := 3) rfl (by rw [ew339]; rfl) (by decide) rfl (fun ls hl => ?_)
          refine lv_goto (tgt := 18) X.1 X.2.1 dL_law_1137 (by decide) ?_
          exact ih _ _ _ _ hf _ _ hP hD hS _ (lv_sub hl [1, 2, 3, 0] rfl)
        · have hf := ite_f hf c338
          refine lv_iconst (v := 0) X.1 X.2.1 dL_law_794 (by decide) ?_
          exact absurd (z_inj1 hf) (by decide)
      have hf := ite_f hf c314
      by_cases c340 : (v3 &&& 31) = 23
      · have hf := ite_t hf c340
        refine lv_tableIn (tgt := 796) X.1 X.2.1 dL_law_33 (by rw [c340]; decide) (by rw [c340]; decide) (by rw [c340]; rfl) (by decide) ?_
        refine lv_aload_n X.1 X.2.1 dL_law_796 rfl (lv_at hl 1 rfl) ?_
        refine lv_aload_n X.1 X.2.1 dL_law_797 rfl (lv_at hl 0 rfl) ?_
        refine lv_iload_n X.1 X.2.1 dL_law_798 rfl (lv_at hl 3 rfl) ?_
        refine lv_iconst (v := 1) X.1 X.2.1 dL_law_799 (by decide) ?_
        refine lv_iadd X.1 X.2.1 dL_law_800 ?_
        obtain ⟨hi341, hf⟩ := chk_e hf
        obtain ⟨v342, ev342, hf⟩ := stp_e hf
        refine va_sld X.1 X.2.1 hX hbl hbA hS hi341 dL_law_801 ?_
        refine z_top ev342 ?_
        refine lv_aload_n X.1 X.2.1 dL_law_802 rfl (lv_at hl 0 rfl) ?_
        refine lv_iload_n X.1 X.2.1 dL_law_803 rfl (lv_at hl 3 rfl) ?_
        refine lv_iconst (v := 2) X.1 X.2.1 dL_law_804 (by decide) ?_
        refine lv_iadd X.1 X.2.1 dL_law_805 ?_
        obtain ⟨hi343, hf⟩ := chk_e hf
        obtain ⟨v344, ev344, hf⟩ := stp_e hf
        refine va_sld X.1 X.2.1 hX hbl hbA hS hi343 dL_law_806 ?_
        refine z_top ev344 ?_
        refine lv_aload_n X.1 X.2.1 dL_law_807 rfl (lv_at hl 0 rfl) ?_
        refine lv_iload_n X.1 X.2.1 dL_law_808 rfl (lv_at hl 3 rfl) ?_
        refine lv_iconst (v := 3) X.1 X.2.1 dL_law_809 (by decide) ?_
        refine lv_iadd X.1 X.2.1 dL_law_810 ?_
        obtain ⟨hi345, hf⟩ := chk_e hf
        obtain ⟨v346, ev346, hf⟩ := stp_e hf
        refine va_sld X.1 X.2.1 hX hbl hbA hS hi345 dL_law_811 ?_
        refine z_top ev346 ?_
        obtain ⟨r347, z348, hc349, hf⟩ := bd2_e hf
        refine z_V (n := 3) (As := [.int v342, .int v344, .int v346]) (rest := []) (ci := 8) (q0 := 0) X hK hN (kX8_day l D K g q18_Z q18_ZL _ v342 v344 v346 r347 z348 hc349) (bw_VL W37_19 W37_20 W37_21 W1_2 W37_22) rfl ⟨rfl, rfl⟩ (by decide +kernel) rfl ⟨Nat.le_of_ble_eq_true rfl, Nat.le_of_ble_eq_true rfl⟩ hP.lef hD.lef rfl rfl (zj_left hP hD hS hA) hS hl.1 rfl (Nat.le_of_ble_eq_true rfl) dL_law_812 ⟨Nat.le_of_ble_eq_true rfl, Nat.le_of_ble_eq_true rfl⟩ rfl (fun H locs hP hD hS => ?_)
        refine lv_aload_n X.1 X.2.1 dL_law_815 rfl (lv_at hl 2 rfl) ?_
        refine lv_aload_n X.1 X.2.1 dL_law_816 rfl (lv_at hl 0 rfl) ?_
        refine lv_iload_n X.1 X.2.1 dL_law_817 rfl (lv_at hl 3 rfl) ?_
        refine lv_iconst (v := 1) X.1 X.2.1 dL_law_818 (by decide) ?_
        refine lv_iadd X.1 X.2.1 dL_law_819 ?_
        obtain ⟨hi350, hf⟩ := chk_e hf
        obtain ⟨v351, ev351, hf⟩ := stp_e hf
        refine va_sld X.1 X.2.1 hX hbl hbA hS hi350 dL_law_820 ?_
        refine z_top ev351 ?_
        refine lv_aload_n X.1 X.2.1 dL_law_821 rfl (lv_at hl 0 rfl) ?_
        refine lv_iload_n X.1 X.2.1 dL_law_822 rfl (lv_at hl 3 rfl) ?_
        refine lv_iconst (v := 2) X.1 X.2.1 dL_law_823 (by decide) ?_
        refine lv_iadd X.1 X.2.1 dL_law_824 ?_
        obtain ⟨hi352, hf⟩ := chk_e hf
        obtain ⟨v353, ev353, hf⟩ := stp_e hf
        refine va_sld X.1 X.2.1 hX hbl hbA hS hi352 dL_law_825 ?_
        refine z_top ev353 ?_
        refine lv_aload_n X.1 X.2.1 dL_law_826 rfl (lv_at hl 0 rfl) ?_
        refine lv_iload_n X.1 X.2.1 dL_law_827 rfl (lv_at hl 3 rfl) ?_
        refine lv_iconst (v := 3) X.1 X.2.1 dL_law_828 (by decide) ?_
        refine lv_iadd X.1 X.2.1 dL_law_829 ?_
        obtain ⟨hi354, hf⟩ := chk_e hf
        obtain ⟨v355, ev355, hf⟩ := stp_e hf
        refine va_sld X.1 X.2.1 hX hbl hbA hS hi354 dL_law_830 ?_
        refine z_top ev355 ?_
        obtain ⟨r356, s357, hc358, hf⟩ := bd2_e hf
        refine z_V (n := 3) (As := [.int v351, .int v353, .int v355]) (rest := [.int r347]) (ci := 9) (q0 := 0) X hK hN (kX9_day l D K aM q18_M _ v351 v353 v355 r356 s357 hc358) (bw_VL W38_2 W38_3 W38_4 W1_5 W38_5) rfl ⟨rfl, rfl⟩ (by decide +kernel) rfl ⟨Nat.le_of_ble_eq_true rfl, Nat.le_of_ble_eq_true rfl⟩ hP.rig hD.rig rfl rfl (zj_right hP hD hS hA) hS hl.1 rfl (Nat.le_of_ble_eq_true rfl) dL_law_831 ⟨Nat.le_of_ble_eq_true rfl, Nat.le_of_ble_eq_true rfl⟩ rfl (fun H locs hP hD hS => ?_)
        refine lv_icmp_eq (tgt := 1134) X.1 X.2.1 dL_law_834 (by decide) (fun c359 => ?_) (fun c359 => ?_)
        · have hf := ite_t hf c359
          obtain ⟨w360, ew360, hf⟩ := stp_e hf
          refine lv_iinc (v := w360) (lv' := [(3, .int w360), (0, .ref b), (1, .ref (g 0 0)), (2, .ref (aM 0))]) X.1 X.2.1 dL_law_1134 hl (k := 3) rfl (by rw [ew360]; rfl) (by decide) rfl (fun ls hl => ?_)
          refine lv_goto (tgt := 18) X.1 X.2.1 dL_law_1137 (by decide) ?_
          exact ih _ _ _ _ hf _ _ hP hD hS _ (lv_sub hl [1, 2, 3, 0] rfl)
        · have hf := ite_f hf c359
          refine lv_iconst (v := 0) X.1 X.2.1 dL_law_837 (by decide) ?_
          exact absurd (z_inj1 hf) (by decide)
      have hf := ite_f hf c340
      by_cases c361 : (v3 &&& 31) = 24
      · have hf := ite_t hf c361
        refine lv_tableIn (tgt := 839) X.1 X.2.1 dL_law_33 (by rw [c361]; decide) (by rw [c361]; decide) (by rw [c361]; rfl) (by decide) ?_
        refine lv_aload_n X.1 X.2.1 dL_law_839 rfl (lv_at hl 1 rfl) ?_
        refine lv_aload_n X.1 X.2.1 dL_law_840 rfl (lv_at hl 0 rfl) ?_
        refine lv_iload_n X.1 X.2.1 dL_law_841 rfl (lv_at hl 3 rfl) ?_
        refine lv_iconst (v := 1) X.1 X.2.1 dL_law_842 (by decide) ?_
        refine lv_iadd X.1 X.2.1 dL_law_843 ?_
        obtain ⟨hi362, hf⟩ := chk_e hf
        obtain ⟨v363, ev363, hf⟩ := stp_e hf
        refine va_sld X.1 X.2.1 hX hbl hbA hS hi362 dL_law_844 ?_
        refine z_top ev363 ?_
        refine lv_aload_n X.1 X.2.1 dL_law_845 rfl (lv_at hl 0 rfl) ?_
        refine lv_iload_n X.1 X.2.1 dL_law_846 rfl (lv_at hl 3 rfl) ?_
        refine lv_iconst (v := 2) X.1 X.2.1 dL_law_847 (by decide) ?_
        refine lv_iadd X.1 X.2.1 dL_law_848 ?_
        obtain ⟨hi364, hf⟩ := chk_e hf
        obtain ⟨v365, ev365, hf⟩ := stp_e hf
        refine va_sld X.1 X.2.1 hX hbl hbA hS hi364 dL_law_849 ?_
        refine z_top ev365 ?_
        refine lv_aload_n X.1 X.2.1 dL_law_850 rfl (lv_at hl 0 rfl) ?_
        refine lv_iload_n X.1 X.2.1 dL_law_851 rfl (lv_at hl 3 rfl) ?_
        refine lv_iconst (v := 3) X.1 X.2.1 dL_law_852 (by decide) ?_
        refine lv_iadd X.1 X.2.1 dL_law_853 ?_
        obtain ⟨hi366, hf⟩ := chk_e hf
        obtain ⟨v367, ev367, hf⟩ := stp_e hf
        refine va_sld X.1 X.2.1 hX hbl hbA hS hi366 dL_law_854 ?_
        refine z_top ev367 ?_
        obtain ⟨r368, z369, hc370, hf⟩ := bd2_e hf
        refine z_V (n := 3) (As := [.int v363, .int v365, .int v367]) (rest := []) (ci := 8) (q0 := 0) X hK hN (kX8_sheet l D K g q18_Z q18_ZL _ v363 v365 v367 r368 z369 hc370) (bw_VL W38_11 W38_12 W38_13 W1_2 W38_14) rfl ⟨rfl, rfl⟩ (by decide +kernel) rfl ⟨Nat.le_of_ble_eq_true rfl, Nat.le_of_ble_eq_true rfl⟩ hP.lef hD.lef rfl rfl (zj_left hP hD hS hA) hS hl.1 rfl (Nat.le_of_ble_eq_true rfl) dL_law_855 ⟨Nat.le_of_ble_eq_true rfl, Nat.le_of_ble_eq_true rfl⟩ rfl (fun H locs hP hD hS => ?_)
        refine lv_aload_n X.1 X.2.1 dL_law_858 rfl (lv_at hl 2 rfl) ?_
        refine lv_aload_n X.1 X.2.1 dL_law_859 rfl (lv_at hl 0 rfl) ?_
        refine lv_iload_n X.1 X.2.1 dL_law_860 rfl (lv_at hl 3 rfl) ?_
        refine lv_iconst (v := 1) X.1 X.2.1 dL_law_861 (by decide) ?_
        refine lv_iadd X.1 X.2.1 dL_law_862 ?_
        obtain ⟨hi371, hf⟩ := chk_e hf
        obtain ⟨v372, ev372, hf⟩ := stp_e hf
        refine va_sld X.1 X.2.1 hX hbl hbA hS hi371 dL_law_863 ?_
        refine z_top ev372 ?_
        refine lv_aload_n X.1 X.2.1 dL_law_864 rfl (lv_at hl 0 rfl) ?_
        refine lv_iload_n X.1 X.2.1 dL_law_865 rfl (lv_at hl 3 rfl) ?_
        refine lv_iconst (v := 2) X.1 X.2.1 dL_law_866 (by decide) ?_
        refine lv_iadd X.1 X.2.1 dL_law_867 ?_
        obtain ⟨hi373, hf⟩ := chk_e hf
        obtain ⟨v374, ev374, hf⟩ := stp_e hf
        refine va_sld X.1 X.2.1 hX hbl hbA hS hi373 dL_law_868 ?_
        refine z_top ev374 ?_
        refine lv_aload_n X.1 X.2.1 dL_law_869 rfl (lv_at hl 0 rfl) ?_
        refine lv_iload_n X.1 X.2.1 dL_law_870 rfl (lv_at hl 3 rfl) ?_
        refine lv_iconst (v := 3) X.1 X.2.1 dL_law_871 (by decide) ?_
        refine lv_iadd X.1 X.2.1 dL_law_872 ?_
        obtain ⟨hi375, hf⟩ := chk_e hf
        obtain ⟨v376, ev376, hf⟩ := stp_e hf
        refine va_sld X.1 X.2.1 hX hbl hbA hS hi375 dL_law_873 ?_
        refine z_top ev376 ?_
        obtain ⟨r377, s378, hc379, hf⟩ := bd2_e hf
        refine z_V (n := 3) (As := [.int v372, .int v374, .int v376]) (rest := [.int r368]) (ci := 9) (q0 := 0) X hK hN (kX9_sheet l D K aM q18_M _ v372 v374 v376 r377 s378 hc379) (bw_VL W39_1 W39_2 W39_3 W1_5 W39_4) rfl ⟨rfl, rfl⟩ (by decide +kernel) rfl ⟨Nat.le_of_ble_eq_true rfl, Nat.le_of_ble_eq_true rfl⟩ hP.rig hD.rig rfl rfl (zj_right hP hD hS hA) hS hl.1 rfl (Nat.le_of_ble_eq_true rfl) dL_law_874 ⟨Nat.le_of_ble_eq_true rfl, Nat.le_of_ble_eq_true rfl⟩ rfl (fun H locs hP hD hS => ?_)
        refine lv_icmp_eq (tgt := 1134) X.1 X.2.1 dL_law_877 (by decide) (fun c380 => ?_) (fun c380 => ?_)
        · have hf := ite_t hf c380
          obtain ⟨w381, ew381, hf⟩ := stp_e hf
          refine lv_iinc (v := w381) (lv' := [(3, .int w381), (0, .ref b), (1, .ref (g 0 0)), (2, .ref (aM 0))]) X.1 X.2.1 dL_law_1134 hl (k := 3) rfl (by rw [ew381]; rfl) (by decide) rfl (fun ls hl => ?_)
          refine lv_goto (tgt := 18) X.1 X.2.1 dL_law_1137 (by decide) ?_
          exact ih _ _ _ _ hf _ _ hP hD hS _ (lv_sub hl [1, 2, 3, 0] rfl)
        · have hf := ite_f hf c380
          refine lv_iconst (v := 0) X.1 X.2.1 dL_law_880 (by decide) ?_
          exact absurd (z_inj1 hf) (by decide)
      have hf := ite_f hf c361
      by_cases c382 : (v3 &&& 31) = 25
      · have hf := ite_t hf c382
        refine lv_tableIn (tgt := 882) X.1 X.2.1 dL_law_33 (by rw [c382]; decide) (by rw [c382]; decide) (by rw [c382]; rfl) (by decide) ?_
        refine lv_aload_n X.1 X.2.1 dL_law_882 rfl (lv_at hl 1 rfl) ?_
        refine lv_aload_n X.1 X.2.1 dL_law_883 rfl (lv_at hl 0 rfl) ?_
        refine lv_iload_n X.1 X.2.1 dL_law_884 rfl (lv_at hl 3 rfl) ?_
        refine lv_iconst (v := 1) X.1 X.2.1 dL_law_885 (by decide) ?_
        refine lv_iadd X.1 X.2.1 dL_law_886 ?_
        obtain ⟨hi383, hf⟩ := chk_e hf
        obtain ⟨v384, ev384, hf⟩ := stp_e hf
        refine va_sld X.1 X.2.1 hX hbl hbA hS hi383 dL_law_887 ?_
        refine z_top ev384 ?_
        obtain ⟨r385, z386, hc387, hf⟩ := bd2_e hf
        refine z_V (n := 1) (As := [.int v384]) (rest := []) (ci := 8) (q0 := 0) X hK hN (kX8_lose l D K g q18_Z q18_ZL _ v384 r385 z386 hc387) (bw_VL W39_5 W39_6 W39_7 W1_2 W39_8) rfl ⟨rfl, rfl⟩ (by decide +kernel) rfl ⟨Nat.le_of_ble_eq_true rfl, Nat.le_of_ble_eq_true rfl⟩ hP.lef hD.lef rfl rfl (zj_left hP hD hS hA) hS hl.1 rfl (Nat.le_of_ble_eq_true rfl) dL_law_888 ⟨Nat.le_of_ble_eq_true rfl, Nat.le_of_ble_eq_true rfl⟩ rfl (fun H locs hP hD hS => ?_)
        refine lv_aload_n X.1 X.2.1 dL_law_891 rfl (lv_at hl 2 rfl) ?_
        refine lv_aload_n X.1 X.2.1 dL_law_892 rfl (lv_at hl 0 rfl) ?_
        refine lv_iload_n X.1 X.2.1 dL_law_893 rfl (lv_at hl 3 rfl) ?_
        refine lv_iconst (v := 1) X.1 X.2.1 dL_law_894 (by decide) ?_
        refine lv_iadd X.1 X.2.1 dL_law_895 ?_
        obtain ⟨hi388, hf⟩ := chk_e hf
        obtain ⟨v389, ev389, hf⟩ := stp_e hf
        refine va_sld X.1 X.2.1 hX hbl hbA hS hi388 dL_law_896 ?_
        refine z_top ev389 ?_
        obtain ⟨r390, s391, hc392, hf⟩ := bd2_e hf
        refine z_V (n := 1) (As := [.int v389]) (rest := [.int r385]) (ci := 9) (q0 := 0) X hK hN (kX9_lose l D K aM q18_M _ v389 r390 s391 hc392) (bw_VL W39_9 W39_10 W39_11 W1_5 W39_12) rfl ⟨rfl, rfl⟩ (by decide +kernel) rfl ⟨Nat.le_of_ble_eq_true rfl, Nat.le_of_ble_eq_true rfl⟩ hP.rig hD.rig rfl rfl (zj_right hP hD hS hA) hS hl.1 rfl (Nat.le_of_ble_eq_true rfl) dL_law_897 ⟨Nat.le_of_ble_eq_true rfl, Nat.le_of_ble_eq_true rfl⟩ rfl (fun H locs hP hD hS => ?_)
        refine lv_icmp_eq (tgt := 1134) X.1 X.2.1 dL_law_900 (by decide) (fun c393 => ?_) (fun c393 => ?_)
        · have hf := ite_t hf c393
          obtain ⟨w394, ew394, hf⟩ := stp_e hf
          refine lv_iinc (v := w394) (lv' := [(3, .int w394), (0, .ref b), (1, .ref (g 0 0)), (2, .ref (aM 0))]) X.1 X.2.1 dL_law_1134 hl (k := 3) rfl (by rw [ew394]; rfl) (by decide) rfl (fun ls hl => ?_)
          refine lv_goto (tgt := 18) X.1 X.2.1 dL_law_1137 (by decide) ?_
          exact ih _ _ _ _ hf _ _ hP hD hS _ (lv_sub hl [1, 2, 3, 0] rfl)
        · have hf := ite_f hf c393
          refine lv_iconst (v := 0) X.1 X.2.1 dL_law_903 (by decide) ?_
          exact absurd (z_inj1 hf) (by decide)
      have hf := ite_f hf c382
      by_cases c395 : (v3 &&& 31) = 26
      · have hf := ite_t hf c395
        refine lv_tableIn (tgt := 905) X.1 X.2.1 dL_law_33 (by rw [c395]; decide) (by rw [c395]; decide) (by rw [c395]; rfl) (by decide) ?_
        refine lv_aload_n X.1 X.2.1 dL_law_905 rfl (lv_at hl 1 rfl) ?_
        refine lv_aload_n X.1 X.2.1 dL_law_906 rfl (lv_at hl 0 rfl) ?_
        refine lv_iload_n X.1 X.2.1 dL_law_907 rfl (lv_at hl 3 rfl) ?_
        refine lv_iconst (v := 1) X.1 X.2.1 dL_law_908 (by decide) ?_
        refine lv_iadd X.1 X.2.1 dL_law_909 ?_
        obtain ⟨hi396, hf⟩ := chk_e hf
        obtain ⟨v397, ev397, hf⟩ := stp_e hf
        refine va_sld X.1 X.2.1 hX hbl hbA hS hi396 dL_law_910 ?_
        refine z_top ev397 ?_
        refine lv_aload_n X.1 X.2.1 dL_law_911 rfl (lv_at hl 0 rfl) ?_
        refine lv_iload_n X.1 X.2.1 dL_law_912 rfl (lv_at hl 3 rfl) ?_
        refine lv_iconst (v := 2) X.1 X.2.1 dL_law_913 (by decide) ?_
        refine lv_iadd X.1 X.2.1 dL_law_914 ?_
        obtain ⟨hi398, hf⟩ := chk_e hf
        obtain ⟨v399, ev399, hf⟩ := stp_e hf
        refine va_sld X.1 X.2.1 hX hbl hbA hS hi398 dL_law_915 ?_
        refine z_top ev399 ?_
        refine lv_aload_n X.1 X.2.1 dL_law_916 rfl (lv_at hl 0 rfl) ?_
        refine lv_iload_n X.1 X.2.1 dL_law_917 rfl (lv_at hl 3 rfl) ?_
        refine lv_iconst (v := 3) X.1 X.2.1 dL_law_918 (by decide) ?_
        refine lv_iadd X.1 X.2.1 dL_law_919 ?_
        obtain ⟨hi400, hf⟩ := chk_e hf
        obtain ⟨v401, ev401, hf⟩ := stp_e hf
        refine va_sld X.1 X.2.1 hX hbl hbA hS hi400 dL_law_920 ?_
        refine z_top ev401 ?_
        refine lv_aload_n X.1 X.2.1 dL_law_921 rfl (lv_at hl 0 rfl) ?_
        refine lv_iload_n X.1 X.2.1 dL_law_922 rfl (lv_at hl 3 rfl) ?_
        refine lv_iconst (v := 4) X.1 X.2.1 dL_law_923 (by decide) ?_
        refine lv_iadd X.1 X.2.1 dL_law_924 ?_
        obtain ⟨hi402, hf⟩ := chk_e hf
        obtain ⟨v403, ev403, hf⟩ := stp_e hf
        refine va_sld X.1 X.2.1 hX hbl hbA hS hi402 dL_law_925 ?_
        refine z_top ev403 ?_
        obtain ⟨r404, z405, hc406, hf⟩ := bd2_e hf
        refine z_V (n := 4) (As := [.int v397, .int v399, .int v401, .int v403]) (rest := []) (ci := 8) (q0 := 0) X hK hN (kX8_put l D K g q18_Z q18_ZL _ v397 v399 v401 v403 r404 z405 hc406) (bw_VL W39_13 W39_14 W39_15 W1_2 W39_16) rfl ⟨rfl, rfl⟩ (by decide +kernel) rfl ⟨Nat.le_of_ble_eq_true rfl, Nat.le_of_ble_eq_true rfl⟩ hP.lef hD.lef rfl rfl (zj_left hP hD hS hA) hS hl.1 rfl (Nat.le_of_ble_eq_true rfl) dL_law_926 ⟨Nat.le_of_ble_eq_true rfl, Nat.le_of_ble_eq_true rfl⟩ rfl (fun H locs hP hD hS => ?_)
        refine lv_aload_n X.1 X.2.1 dL_law_929 rfl (lv_at hl 2 rfl) ?_
        refine lv_aload_n X.1 X.2.1 dL_law_930 rfl (lv_at hl 0 rfl) ?_
        refine lv_iload_n X.1 X.2.1 dL_law_931 rfl (lv_at hl 3 rfl) ?_
        refine lv_iconst (v := 1) X.1 X.2.1 dL_law_932 (by decide) ?_
        refine lv_iadd X.1 X.2.1 dL_law_933 ?_
        obtain ⟨hi407, hf⟩ := chk_e hf
        obtain ⟨v408, ev408, hf⟩ := stp_e hf
        refine va_sld X.1 X.2.1 hX hbl hbA hS hi407 dL_law_934 ?_
        refine z_top ev408 ?_
        refine lv_aload_n X.1 X.2.1 dL_law_935 rfl (lv_at hl 0 rfl) ?_
        refine lv_iload_n X.1 X.2.1 dL_law_936 rfl (lv_at hl 3 rfl) ?_
        refine lv_iconst (v := 2) X.1 X.2.1 dL_law_937 (by decide) ?_
        refine lv_iadd X.1 X.2.1 dL_law_938 ?_
        obtain ⟨hi409, hf⟩ := chk_e hf
        obtain ⟨v410, ev410, hf⟩ := stp_e hf
        refine va_sld X.1 X.2.1 hX hbl hbA hS hi409 dL_law_939 ?_
        refine z_top ev410 ?_
        refine lv_aload_n X.1 X.2.1 dL_law_940 rfl (lv_at hl 0 rfl) ?_
        refine lv_iload_n X.1 X.2.1 dL_law_941 rfl (lv_at hl 3 rfl) ?_
        refine lv_iconst (v := 3) X.1 X.2.1 dL_law_942 (by decide) ?_
        refine lv_iadd X.1 X.2.1 dL_law_943 ?_
        obtain ⟨hi411, hf⟩ := chk_e hf
        obtain ⟨v412, ev412, hf⟩ := stp_e hf
        refine va_sld X.1 X.2.1 hX hbl hbA hS hi411 dL_law_944 ?_
        refine z_top ev412 ?_
        refine lv_aload_n X.1 X.2.1 dL_law_945 rfl (lv_at hl 0 rfl) ?_
        refine lv_iload_n X.1 X.2.1 dL_law_946 rfl (lv_at hl 3 rfl) ?_
        refine lv_iconst (v := 4) X.1 X.2.1 dL_law_947 (by decide) ?_
        refine lv_iadd X.1 X.2.1 dL_law_948 ?_
        obtain ⟨hi413, hf⟩ := chk_e hf
        obtain ⟨v414, ev414, hf⟩ := stp_e hf
        refine va_sld X.1 X.2.1 hX hbl hbA hS hi413 dL_law_949 ?_
        refine z_top ev414 ?_
        obtain ⟨r415, s416, hc417, hf⟩ := bd2_e hf
        refine z_V (n := 4) (As := [.int v408, .int v410, .int v412, .int v414]) (rest := [.int r404]) (ci := 9) (q0 := 0) X hK hN (kX9_put l D K aM q18_M _ v408 v410 v412 v414 r415 s416 hc417) (bw_VL W40_1 W40_2 W40_3 W1_5 W40_4) rfl ⟨rfl, rfl⟩ (by decide +kernel) rfl ⟨Nat.le_of_ble_eq_true rfl, Nat.le_of_ble_eq_true rfl⟩ hP.rig hD.rig rfl rfl (zj_right hP hD hS hA) hS hl.1 rfl (Nat.le_of_ble_eq_true rfl) dL_law_950 ⟨Nat.le_of_ble_eq_true rfl, Nat.le_of_ble_eq_true rfl⟩ rfl (fun H locs hP hD hS => ?_)
        refine lv_icmp_eq (tgt := 1134) X.1 X.2.1 dL_law_953 (by decide) (fun c418 => ?_) (fun c418 => ?_)
        · have hf := ite_t hf c418
          obtain ⟨w419, ew419, hf⟩ := stp_e hf
          refine lv_iinc (v := w419) (lv' := [(3, .int w419), (0, .ref b), (1, .ref (g 0 0)), (2, .ref (aM 0))]) X.1 X.2.1 dL_law_1134 hl (k := 3) rfl (by rw [ew419]; rfl) (by decide) rfl (fun ls hl => ?_)
          refine lv_goto (tgt := 18) X.1 X.2.1 dL_law_1137 (by decide) ?_
          exact ih _ _ _ _ hf _ _ hP hD hS _ (lv_sub hl [1, 2, 3, 0] rfl)
        · have hf := ite_f hf c418
          refine lv_iconst (v := 0) X.1 X.2.1 dL_law_956 (by decide) ?_
          exact absurd (z_inj1 hf) (by decide)
      have hf := ite_f hf c395
      by_cases c420 : (v3 &&& 31) = 27
      · have hf := ite_t hf c420
        refine lv_tableIn (tgt := 958) X.1 X.2.1 dL_law_33 (by rw [c420]; decide) (by rw [c420]; decide) (by rw [c420]; rfl) (by decide) ?_
        refine lv_aload_n X.1 X.2.1 dL_law_958 rfl (lv_at hl 1 rfl) ?_
        refine lv_aload_n X.1 X.2.1 dL_law_959 rfl (lv_at hl 0 rfl) ?_
        refine lv_iload_n X.1 X.2.1 dL_law_960 rfl (lv_at hl 3 rfl) ?_
        refine lv_iconst (v := 1) X.1 X.2.1 dL_law_961 (by decide) ?_
        refine lv_iadd X.1 X.2.1 dL_law_962 ?_
        obtain ⟨hi421, hf⟩ := chk_e hf
        obtain ⟨v422, ev422, hf⟩ := stp_e hf
        refine va_sld X.1 X.2.1 hX hbl hbA hS hi421 dL_law_963 ?_
        refine z_top ev422 ?_
        refine lv_aload_n X.1 X.2.1 dL_law_964 rfl (lv_at hl 0 rfl) ?_
        refine lv_iload_n X.1 X.2.1 dL_law_965 rfl (lv_at hl 3 rfl) ?_
        refine lv_iconst (v := 2) X.1 X.2.1 dL_law_966 (by decide) ?_
        refine lv_iadd X.1 X.2.1 dL_law_967 ?_
        obtain ⟨hi423, hf⟩ := chk_e hf
        obtain ⟨v424, ev424, hf⟩ := stp_e hf
        refine va_sld X.1 X.2.1 hX hbl hbA hS hi423 dL_law_968 ?_
        refine z_top ev424 ?_
        refine lv_aload_n X.1 X.2.1 dL_law_969 rfl (lv_at hl 0 rfl) ?_
        refine lv_iload_n X.1 X.2.1 dL_law_970 rfl (lv_at hl 3 rfl) ?_
        refine lv_iconst (v := 3) X.1 X.2.1 dL_law_971 (by decide) ?_
        refine lv_iadd X.1 X.2.1 dL_law_972 ?_
        obtain ⟨hi425, hf⟩ := chk_e hf
        obtain ⟨v426, ev426, hf⟩ := stp_e hf
        refine va_sld X.1 X.2.1 hX hbl hbA hS hi425 dL_law_973 ?_
        refine z_top ev426 ?_
        obtain ⟨r427, z428, hc429, hf⟩ := bd2_e hf
        refine z_V (n := 3) (As := [.int v422, .int v424, .int v426]) (rest := []) (ci := 8) (q0 := 0) X hK hN (kX8_get l D K g q18_Z q18_ZL _ v422 v424 v426 r427 z428 hc429) (bw_VL W40_13 W40_14 W40_15 W1_2 W40_16) rfl ⟨rfl, rfl⟩ (by decide +kernel) rfl ⟨Nat.le_of_ble_eq_true rfl, Nat.le_of_ble_eq_true rfl⟩ hP.lef hD.lef rfl rfl (zj_left hP hD hS hA) hS hl.1 rfl (Nat.le_of_ble_eq_true rfl) dL_law_974 ⟨Nat.le_of_ble_eq_true rfl, Nat.le_of_ble_eq_true rfl⟩ rfl (fun H locs hP hD hS => ?_)
        refine lv_aload_n X.1 X.2.1 dL_law_977 rfl (lv_at hl 2 rfl) ?_
        refine lv_aload_n X.1 X.2.1 dL_law_978 rfl (lv_at hl 0 rfl) ?_
        refine lv_iload_n X.1 X.2.1 dL_law_979 rfl (lv_at hl 3 rfl) ?_
        refine lv_iconst (v := 1) X.1 X.2.1 dL_law_980 (by decide) ?_
        refine lv_iadd X.1 X.2.1 dL_law_981 ?_
        obtain ⟨hi430, hf⟩ := chk_e hf
        obtain ⟨v431, ev431, hf⟩ := stp_e hf
        refine va_sld X.1 X.2.1 hX hbl hbA hS hi430 dL_law_982 ?_
        refine z_top ev431 ?_
        refine lv_aload_n X.1 X.2.1 dL_law_983 rfl (lv_at hl 0 rfl) ?_
        refine lv_iload_n X.1 X.2.1 dL_law_984 rfl (lv_at hl 3 rfl) ?_
        refine lv_iconst (v := 2) X.1 X.2.1 dL_law_985 (by decide) ?_
        refine lv_iadd X.1 X.2.1 dL_law_986 ?_
        obtain ⟨hi432, hf⟩ := chk_e hf
        obtain ⟨v433, ev433, hf⟩ := stp_e hf
        refine va_sld X.1 X.2.1 hX hbl hbA hS hi432 dL_law_987 ?_
        refine z_top ev433 ?_
        refine lv_aload_n X.1 X.2.1 dL_law_988 rfl (lv_at hl 0 rfl) ?_
        refine lv_iload_n X.1 X.2.1 dL_law_989 rfl (lv_at hl 3 rfl) ?_
        refine lv_iconst (v := 3) X.1 X.2.1 dL_law_990 (by decide) ?_
        refine lv_iadd X.1 X.2.1 dL_law_991 ?_
        obtain ⟨hi434, hf⟩ := chk_e hf
        obtain ⟨v435, ev435, hf⟩ := stp_e hf
        refine va_sld X.1 X.2.1 hX hbl hbA hS hi434 dL_law_992 ?_
        refine z_top ev435 ?_
        obtain ⟨r436, s437, hc438, hf⟩ := bd2_e hf
        refine z_V (n := 3) (As := [.int v431, .int v433, .int v435]) (rest := [.int r427]) (ci := 9) (q0 := 0) X hK hN (kX9_get l D K aM q18_M _ v431 v433 v435 r436 s437 hc438) (bw_VL W40_18 W40_19 W40_20 W1_5 W40_21) rfl ⟨rfl, rfl⟩ (by decide +kernel) rfl ⟨Nat.le_of_ble_eq_true rfl, Nat.le_of_ble_eq_true rfl⟩ hP.rig hD.rig rfl rfl (zj_right hP hD hS hA) hS hl.1 rfl (Nat.le_of_ble_eq_true rfl) dL_law_993 ⟨Nat.le_of_ble_eq_true rfl, Nat.le_of_ble_eq_true rfl⟩ rfl (fun H locs hP hD hS => ?_)
        refine lv_icmp_eq (tgt := 1134) X.1 X.2.1 dL_law_996 (by decide) (fun c439 => ?_) (fun c439 => ?_)
        · have hf := ite_t hf c439
          obtain ⟨w440, ew440, hf⟩ := stp_e hf
          refine lv_iinc (v := w440) (lv' := [(3, .int w440), (0, .ref b), (1, .ref (g 0 0)), (2, .ref (aM 0))]) X.1 X.2.1 dL_law_1134 hl (k := 3) rfl (by rw [ew440]; rfl) (by decide) rfl (fun ls hl => ?_)
          refine lv_goto (tgt := 18) X.1 X.2.1 dL_law_1137 (by decide) ?_
          exact ih _ _ _ _ hf _ _ hP hD hS _ (lv_sub hl [1, 2, 3, 0] rfl)
        · have hf := ite_f hf c439
          refine lv_iconst (v := 0) X.1 X.2.1 dL_law_999 (by decide) ?_
          exact absurd (z_inj1 hf) (by decide)
      have hf := ite_f hf c420
      by_cases c441 : (v3 &&& 31) = 28
      · have hf := ite_t hf c441
        refine lv_tableIn (tgt := 1001) X.1 X.2.1 dL_law_33 (by rw [c441]; decide) (by rw [c441]; decide) (by rw [c441]; rfl) (by decide) ?_
        refine lv_aload_n X.1 X.2.1 dL_law_1001 rfl (lv_at hl 1 rfl) ?_
        refine lv_aload_n X.1 X.2.1 dL_law_1002 rfl (lv_at hl 0 rfl) ?_
        refine lv_iload_n X.1 X.2.1 dL_law_1003 rfl (lv_at hl 3 rfl) ?_
        refine lv_iconst (v := 1) X.1 X.2.1 dL_law_1004 (by decide) ?_
        refine lv_iadd X.1 X.2.1 dL_law_1005 ?_
        obtain ⟨hi442, hf⟩ := chk_e hf
        obtain ⟨v443, ev443, hf⟩ := stp_e hf
        refine va_sld X.1 X.2.1 hX hbl hbA hS hi442 dL_law_1006 ?_
        refine z_top ev443 ?_
        refine lv_aload_n X.1 X.2.1 dL_law_1007 rfl (lv_at hl 0 rfl) ?_
        refine lv_iload_n X.1 X.2.1 dL_law_1008 rfl (lv_at hl 3 rfl) ?_
        refine lv_iconst (v := 2) X.1 X.2.1 dL_law_1009 (by decide) ?_
        refine lv_iadd X.1 X.2.1 dL_law_1010 ?_
        obtain ⟨hi444, hf⟩ := chk_e hf
        obtain ⟨v445, ev445, hf⟩ := stp_e hf
        refine va_sld X.1 X.2.1 hX hbl hbA hS hi444 dL_law_1011 ?_
        refine z_top ev445 ?_
        refine lv_aload_n X.1 X.2.1 dL_law_1012 rfl (lv_at hl 0 rfl) ?_
        refine lv_iload_n X.1 X.2.1 dL_law_1013 rfl (lv_at hl 3 rfl) ?_
        refine lv_iconst (v := 3) X.1 X.2.1 dL_law_1014 (by decide) ?_
        refine lv_iadd X.1 X.2.1 dL_law_1015 ?_
        obtain ⟨hi446, hf⟩ := chk_e hf
        obtain ⟨v447, ev447, hf⟩ := stp_e hf
        refine va_sld X.1 X.2.1 hX hbl hbA hS hi446 dL_law_1016 ?_
        refine z_top ev447 ?_
        refine lv_aload_n X.1 X.2.1 dL_law_1017 rfl (lv_at hl 0 rfl) ?_
        refine lv_iload_n X.1 X.2.1 dL_law_1018 rfl (lv_at hl 3 rfl) ?_
        refine lv_iconst (v := 4) X.1 X.2.1 dL_law_1019 (by decide) ?_
        refine lv_iadd X.1 X.2.1 dL_law_1020 ?_
        obtain ⟨hi448, hf⟩ := chk_e hf
        obtain ⟨v449, ev449, hf⟩ := stp_e hf
        refine va_sld X.1 X.2.1 hX hbl hbA hS hi448 dL_law_1021 ?_
        refine z_top ev449 ?_
        refine lv_aload_n X.1 X.2.1 dL_law_1022 rfl (lv_at hl 0 rfl) ?_
        refine lv_iload_n X.1 X.2.1 dL_law_1023 rfl (lv_at hl 3 rfl) ?_
        refine lv_iconst (v := 5) X.1 X.2.1 dL_law_1024 (by decide) ?_
        refine lv_iadd X.1 X.2.1 dL_law_1025 ?_
        obtain ⟨hi450, hf⟩ := chk_e hf
        obtain ⟨v451, ev451, hf⟩ := stp_e hf
        refine va_sld X.1 X.2.1 hX hbl hbA hS hi450 dL_law_1026 ?_
        refine z_top ev451 ?_
        obtain ⟨r452, z453, hc454, hf⟩ := bd2_e hf
        refine z_V (n := 5) (As := [.int v443, .int v445, .int v447, .int v449, .int v451]) (rest := []) (ci := 8) (q0 := 0) X hK hN (kX8_copy l D K g q18_Z q18_ZL _ v443 v445 v447 v449 v451 r452 z453 hc454) (bw_VL W40_23 W41_0 W41_1 W1_2 W41_2) rfl ⟨rfl, rfl⟩ (by decide +kernel) rfl ⟨Nat.le_of_ble_eq_true rfl, Nat.le_of_ble_eq_true rfl⟩ hP.lef hD.lef rfl rfl (zj_left hP hD hS hA) hS hl.1 rfl (Nat.le_of_ble_eq_true rfl) dL_law_1027 ⟨Nat.le_of_ble_eq_true rfl, Nat.le_of_ble_eq_true rfl⟩ rfl (fun H locs hP hD hS => ?_)
        refine lv_aload_n X.1 X.2.1 dL_law_1030 rfl (lv_at hl 2 rfl) ?_
        refine lv_aload_n X.1 X.2.1 dL_law_1031 rfl (lv_at hl 0 rfl) ?_
        refine lv_iload_n X.1 X.2.1 dL_law_1032 rfl (lv_at hl 3 rfl) ?_
        refine lv_iconst (v := 1) X.1 X.2.1 dL_law_1033 (by decide) ?_
        refine lv_iadd X.1 X.2.1 dL_law_1034 ?_
        obtain ⟨hi455, hf⟩ := chk_e hf
        obtain ⟨v456, ev456, hf⟩ := stp_e hf
        refine va_sld X.1 X.2.1 hX hbl hbA hS hi455 dL_law_1035 ?_
        refine z_top ev456 ?_
        refine lv_aload_n X.1 X.2.1 dL_law_1036 rfl (lv_at hl 0 rfl) ?_
        refine lv_iload_n X.1 X.2.1 dL_law_1037 rfl (lv_at hl 3 rfl) ?_
        refine lv_iconst (v := 2) X.1 X.2.1 dL_law_1038 (by decide) ?_
        refine lv_iadd X.1 X.2.1 dL_law_1039 ?_
        obtain ⟨hi457, hf⟩ := chk_e hf
        obtain ⟨v458, ev458, hf⟩ := stp_e hf
        refine va_sld X.1 X.2.1 hX hbl hbA hS hi457 dL_law_1040 ?_
        refine z_top ev458 ?_
        refine lv_aload_n X.1 X.2.1 dL_law_1041 rfl (lv_at hl 0 rfl) ?_
        refine lv_iload_n X.1 X.2.1 dL_law_1042 rfl (lv_at hl 3 rfl) ?_
        refine lv_iconst (v := 3) X.1 X.2.1 dL_law_1043 (by decide) ?_
        refine lv_iadd X.1 X.2.1 dL_law_1044 ?_
        obtain ⟨hi459, hf⟩ := chk_e hf
        obtain ⟨v460, ev460, hf⟩ := stp_e hf
        refine va_sld X.1 X.2.1 hX hbl hbA hS hi459 dL_law_1045 ?_
        refine z_top ev460 ?_
        refine lv_aload_n X.1 X.2.1 dL_law_1046 rfl (lv_at hl 0 rfl) ?_
        refine lv_iload_n X.1 X.2.1 dL_law_1047 rfl (lv_at hl 3 rfl) ?_
        refine lv_iconst (v := 4) X.1 X.2.1 dL_law_1048 (by decide) ?_
        refine lv_iadd X.1 X.2.1 dL_law_1049 ?_
        obtain ⟨hi461, hf⟩ := chk_e hf
        obtain ⟨v462, ev462, hf⟩ := stp_e hf
        refine va_sld X.1 X.2.1 hX hbl hbA hS hi461 dL_law_1050 ?_
        refine z_top ev462 ?_
        refine lv_aload_n X.1 X.2.1 dL_law_1051 rfl (lv_at hl 0 rfl) ?_
        refine lv_iload_n X.1 X.2.1 dL_law_1052 rfl (lv_at hl 3 rfl) ?_
        refine lv_iconst (v := 5) X.1 X.2.1 dL_law_1053 (by decide) ?_
        refine lv_iadd X.1 X.2.1 dL_law_1054 ?_
        obtain ⟨hi463, hf⟩ := chk_e hf
        obtain ⟨v464, ev464, hf⟩ := stp_e hf
        refine va_sld X.1 X.2.1 hX hbl hbA hS hi463 dL_law_1055 ?_
        refine z_top ev464 ?_
        obtain ⟨r465, s466, hc467, hf⟩ := bd2_e hf
        refine z_V (n := 5) (As := [.int v456, .int v458, .int v460, .int v462, .int v464]) (rest := [.int r452]) (ci := 9) (q0 := 0) X hK hN (kX9_copy l D K aM q18_M _ v456 v458 v460 v462 v464 r465 s466 hc467) (bw_VL W41_12 W41_13 W41_14 W1_5 W41_15) rfl ⟨rfl, rfl⟩ (by decide +kernel) rfl ⟨Nat.le_of_ble_eq_true rfl, Nat.le_of_ble_eq_true rfl⟩ hP.rig hD.rig rfl rfl (zj_right hP hD hS hA) hS hl.1 rfl (Nat.le_of_ble_eq_true rfl) dL_law_1056 ⟨Nat.le_of_ble_eq_true rfl, Nat.le_of_ble_eq_true rfl⟩ rfl (fun H locs hP hD hS => ?_)
        refine lv_icmp_eq (tgt := 1134) X.1 X.2.1 dL_law_1059 (by decide) (fun c468 => ?_) (fun c468 => ?_)
        · have hf := ite_t hf c468
          obtain ⟨w469, ew469, hf⟩ := stp_e hf
          refine lv_iinc (v := w469) (lv' := [(3, .int w469), (0, .ref b), (1, .ref (g 0 0)), (2, .ref (aM 0))]) X.1 X.2.1 dL_law_1134 hl (k := 3) rfl (by rw [ew469]; rfl) (by decide) rfl (fun ls hl => ?_)
          refine lv_goto (tgt := 18) X.1 X.2.1 dL_law_1137 (by decide) ?_
          exact ih _ _ _ _ hf _ _ hP hD hS _ (lv_sub hl [1, 2, 3, 0] rfl)
        · have hf := ite_f hf c468
          refine lv_iconst (v := 0) X.1 X.2.1 dL_law_1062 (by decide) ?_
          exact absurd (z_inj1 hf) (by decide)
      have hf := ite_f hf c441
      by_cases c470 : (v3 &&& 31) = 29
      · have hf := ite_t hf c470
        refine lv_tableIn (tgt := 1064) X.1 X.2.1 dL_law_33 (by rw [c470]; decide) (by rw [c470]; decide) (by rw [c470]; rfl) (by decide) ?_
        refine lv_aload_n X.1 X.2.1 dL_law_1064 rfl (lv_at hl 1 rfl) ?_
        refine lv_aload_n X.1 X.2.1 dL_law_1065 rfl (lv_at hl 0 rfl) ?_
        refine lv_iload_n X.1 X.2.1 dL_law_1066 rfl (lv_at hl 3 rfl) ?_
        refine lv_iconst (v := 1) X.1 X.2.1 dL_law_1067 (by decide) ?_
        refine lv_iadd X.1 X.2.1 dL_law_1068 ?_
        obtain ⟨hi471, hf⟩ := chk_e hf
        obtain ⟨v472, ev472, hf⟩ := stp_e hf
        refine va_sld X.1 X.2.1 hX hbl hbA hS hi471 dL_law_1069 ?_
        refine z_top ev472 ?_
        refine lv_aload_n X.1 X.2.1 dL_law_1070 rfl (lv_at hl 0 rfl) ?_
        refine lv_iload_n X.1 X.2.1 dL_law_1071 rfl (lv_at hl 3 rfl) ?_
        refine lv_iconst (v := 2) X.1 X.2.1 dL_law_1072 (by decide) ?_
        refine lv_iadd X.1 X.2.1 dL_law_1073 ?_
        obtain ⟨hi473, hf⟩ := chk_e hf
        obtain ⟨v474, ev474, hf⟩ := stp_e hf
        refine va_sld X.1 X.2.1 hX hbl hbA hS hi473 dL_law_1074 ?_
        refine z_top ev474 ?_
        obtain ⟨r475, z476, hc477, hf⟩ := bd2_e hf
        refine z_V (n := 2) (As := [.int v472, .int v474]) (rest := []) (ci := 8) (q0 := 0) X hK hN (kX8_write l D K g q18_Z q18_ZL _ v472 v474 r475 z476 hc477) (bw_VL W41_16 W41_17 W41_18 W1_2 W41_19) rfl ⟨rfl, rfl⟩ (by decide +kernel) rfl ⟨Nat.le_of_ble_eq_true rfl, Nat.le_of_ble_eq_true rfl⟩ hP.lef hD.lef rfl rfl (zj_left hP hD hS hA) hS hl.1 rfl (Nat.le_of_ble_eq_true rfl) dL_law_1075 ⟨Nat.le_of_ble_eq_true rfl, Nat.le_of_ble_eq_true rfl⟩ rfl (fun H locs hP hD hS => ?_)
        refine lv_aload_n X.1 X.2.1 dL_law_1078 rfl (lv_at hl 2 rfl) ?_
        refine lv_aload_n X.1 X.2.1 dL_law_1079 rfl (lv_at hl 0 rfl) ?_
        refine lv_iload_n X.1 X.2.1 dL_law_1080 rfl (lv_at hl 3 rfl) ?_
        refine lv_iconst (v := 1) X.1 X.2.1 dL_law_1081 (by decide) ?_
        refine lv_iadd X.1 X.2.1 dL_law_1082 ?_
        obtain ⟨hi478, hf⟩ := chk_e hf
        obtain ⟨v479, ev479, hf⟩ := stp_e hf
        refine va_sld X.1 X.2.1 hX hbl hbA hS hi478 dL_law_1083 ?_
        refine z_top ev479 ?_
        refine lv_aload_n X.1 X.2.1 dL_law_1084 rfl (lv_at hl 0 rfl) ?_
        refine lv_iload_n X.1 X.2.1 dL_law_1085 rfl (lv_at hl 3 rfl) ?_
        refine lv_iconst (v := 2) X.1 X.2.1 dL_law_1086 (by decide) ?_
        refine lv_iadd X.1 X.2.1 dL_law_1087 ?_
        obtain ⟨hi480, hf⟩ := chk_e hf
        obtain ⟨v481, ev481, hf⟩ := stp_e hf
        refine va_sld X.1 X.2.1 hX hbl hbA hS hi480 dL_law_1088 ?_
        refine z_top ev481 ?_
        obtain ⟨r482, s483, hc484, hf⟩ := bd2_e hf
        refine z_V (n := 2) (As := [.int v479, .int v481]) (rest := [.int r475]) (ci := 9) (q0 := 0) X hK hN (kX9_write l D K aM q18_M _ v479 v481 r482 s483 hc484) (bw_VL W41_20 W41_21 W41_22 W1_5 W41_23) rfl ⟨rfl, rfl⟩ (by decide +kernel) rfl ⟨Nat.le_of_ble_eq_true rfl, Nat.le_of_ble_eq_true rfl⟩ hP.rig hD.rig rfl rfl (zj_right hP hD hS hA) hS hl.1 rfl (Nat.le_of_ble_eq_true rfl) dL_law_1089 ⟨Nat.le_of_ble_eq_true rfl, Nat.le_of_ble_eq_true rfl⟩ rfl (fun H locs hP hD hS => ?_)
        refine lv_icmp_eq (tgt := 1134) X.1 X.2.1 dL_law_1092 (by decide) (fun c485 => ?_) (fun c485 => ?_)
        · have hf := ite_t hf c485
          obtain ⟨w486, ew486, hf⟩ := stp_e hf
          refine lv_iinc (v := w486) (lv' := [(3, .int w486), (0, .ref b), (1, .ref (g 0 0)), (2, .ref (aM 0))]) X.1 X.2.1 dL_law_1134 hl (k := 3) rfl (by rw [ew486]; rfl) (by decide) rfl (fun ls hl => ?_)
          refine lv_goto (tgt := 18) X.1 X.2.1 dL_law_1137 (by decide) ?_
          exact ih _ _ _ _ hf _ _ hP hD hS _ (lv_sub hl [1, 2, 3, 0] rfl)
        · have hf := ite_f hf c485
          refine lv_iconst (v := 0) X.1 X.2.1 dL_law_1095 (by decide) ?_
          exact absurd (z_inj1 hf) (by decide)
      have hf := ite_f hf c470
      by_cases c487 : (v3 &&& 31) = 30
      · have hf := ite_t hf c487
        refine lv_tableIn (tgt := 1097) X.1 X.2.1 dL_law_33 (by rw [c487]; decide) (by rw [c487]; decide) (by rw [c487]; rfl) (by decide) ?_
        refine lv_aload_n X.1 X.2.1 dL_law_1097 rfl (lv_at hl 1 rfl) ?_
        refine lv_aload_n X.1 X.2.1 dL_law_1098 rfl (lv_at hl 0 rfl) ?_
        refine lv_iload_n X.1 X.2.1 dL_law_1099 rfl (lv_at hl 3 rfl) ?_
        refine lv_iconst (v := 1) X.1 X.2.1 dL_law_1100 (by decide) ?_
        refine lv_iadd X.1 X.2.1 dL_law_1101 ?_
        obtain ⟨hi488, hf⟩ := chk_e hf
        obtain ⟨v489, ev489, hf⟩ := stp_e hf
        refine va_sld X.1 X.2.1 hX hbl hbA hS hi488 dL_law_1102 ?_
        refine z_top ev489 ?_
        obtain ⟨r490, z491, hc492, hf⟩ := bd2_e hf
        refine z_V (n := 1) (As := [.int v489]) (rest := []) (ci := 8) (q0 := 0) X hK hN (kX8_count l D K g q18_Z q18_ZL _ v489 r490 z491 hc492) (bw_VL W42_0 W42_1 W42_2 W1_2 W42_3) rfl ⟨rfl, rfl⟩ (by decide +kernel) rfl ⟨Nat.le_of_ble_eq_true rfl, Nat.le_of_ble_eq_true rfl⟩ hP.lef hD.lef rfl rfl (zj_left hP hD hS hA) hS hl.1 rfl (Nat.le_of_ble_eq_true rfl) dL_law_1103 ⟨Nat.le_of_ble_eq_true rfl, Nat.le_of_ble_eq_true rfl⟩ rfl (fun H locs hP hD hS => ?_)
        refine lv_aload_n X.1 X.2.1 dL_law_1106 rfl (lv_at hl 2 rfl) ?_
        refine lv_aload_n X.1 X.2.1 dL_law_1107 rfl (lv_at hl 0 rfl) ?_
        refine lv_iload_n X.1 X.2.1 dL_law_1108 rfl (lv_at hl 3 rfl) ?_
        refine lv_iconst (v := 1) X.1 X.2.1 dL_law_1109 (by decide) ?_
        refine lv_iadd X.1 X.2.1 dL_law_1110 ?_
        obtain ⟨hi493, hf⟩ := chk_e hf
        obtain ⟨v494, ev494, hf⟩ := stp_e hf
        refine va_sld X.1 X.2.1 hX hbl hbA hS hi493 dL_law_1111 ?_
        refine z_top ev494 ?_
        obtain ⟨r495, s496, hc497, hf⟩ := bd2_e hf
        refine z_V (n := 1) (As := [.int v494]) (rest := [.int r490]) (ci := 9) (q0 := 0) X hK hN (kX9_count l D K aM q18_M _ v494 r495 s496 hc497) (bw_VL W42_4 W42_5 W42_6 W1_5 W42_7) rfl ⟨rfl, rfl⟩ (by decide +kernel) rfl ⟨Nat.le_of_ble_eq_true rfl, Nat.le_of_ble_eq_true rfl⟩ hP.rig hD.rig rfl rfl (zj_right hP hD hS hA) hS hl.1 rfl (Nat.le_of_ble_eq_true rfl) dL_law_1112 ⟨Nat.le_of_ble_eq_true rfl, Nat.le_of_ble_eq_true rfl⟩ rfl (fun H locs hP hD hS => ?_)
        refine lv_icmp_eq (tgt := 1134) X.1 X.2.1 dL_law_1115 (by decide) (fun c498 => ?_) (fun c498 => ?_)
        · have hf := ite_t hf c498
          obtain ⟨w499, ew499, hf⟩ := stp_e hf
          refine lv_iinc (v := w499) (lv' := [(3, .int w499), (0, .ref b), (1, .ref (g 0 0)), (2, .ref (aM 0))]) X.1 X.2.1 dL_law_1134 hl (k := 3) rfl (by rw [ew499]; rfl) (by decide) rfl (fun ls hl => ?_)
          refine lv_goto (tgt := 18) X.1 X.2.1 dL_law_1137 (by decide) ?_
          exact ih _ _ _ _ hf _ _ hP hD hS _ (lv_sub hl [1, 2, 3, 0] rfl)
        · have hf := ite_f hf c498
          refine lv_iconst (v := 0) X.1 X.2.1 dL_law_1118 (by decide) ?_
          exact absurd (z_inj1 hf) (by decide)
      have hf := ite_f hf c487
      by_cases c500 : (v3 &&& 31) = 31
      · have hf := ite_t hf c500
        refine lv_tableIn (tgt := 1120) X.1 X.2.1 dL_law_33 (by rw [c500]; decide) (by rw [c500]; decide) (by rw [c500]; rfl) (by decide) ?_
        refine lv_aload_n X.1 X.2.1 dL_law_1120 rfl (lv_at hl 1 rfl) ?_
        obtain ⟨r501, z502, y503, hc504, hf⟩ := bd3_e hf
        refine z_V (n := 0) (As := []) (rest := []) (ci := 8) (q0 := 0) X hK hN (kX8_digest l D K g q18_Z q18_ZL _ r501 z502 y503 hc504) (bw_VL W42_12 W42_13 W42_14 W1_2 W42_15) rfl ⟨rfl, rfl⟩ (by decide +kernel) rfl ⟨Nat.le_of_ble_eq_true rfl, Nat.le_of_ble_eq_true rfl⟩ hP.lef hD.lef rfl rfl (zj_left hP hD hS hA) hS hl.1 rfl (Nat.le_of_ble_eq_true rfl) dL_law_1121 ⟨Nat.le_of_ble_eq_true rfl, Nat.le_of_ble_eq_true rfl⟩ rfl (fun H locs hP hD hS => ?_)
        refine lv_aload_n X.1 X.2.1 dL_law_1124 rfl (lv_at hl 2 rfl) ?_
        obtain ⟨r505, s506, hc507, hf⟩ := bd2_e hf
        refine z_V (n := 0) (As := []) (rest := [.long r501]) (ci := 9) (q0 := 0) X hK hN (kX9_digest l D K aM q18_M _ r505 s506 hc507) (bw_VL W44_8 W44_9 W44_10 W1_5 W44_11) rfl ⟨rfl, rfl⟩ (by decide +kernel) rfl ⟨Nat.le_of_ble_eq_true rfl, Nat.le_of_ble_eq_true rfl⟩ hP.rig hD.rig rfl rfl (zj_right hP hD hS hA) hS hl.1 rfl (Nat.le_of_ble_eq_true rfl) dL_law_1125 ⟨Nat.le_of_ble_eq_true rfl, Nat.le_of_ble_eq_true rfl⟩ rfl (fun H locs hP hD hS => ?_)
        refine W.lcmp X.1 X.2.1 dL_law_1128 ?_
        refine lv_if_eq (tgt := 1134) X.1 X.2.1 dL_law_1129 (by decide) (fun c508 => ?_) (fun c508 => ?_)
        · have hf := ite_t hf c508
          obtain ⟨w509, ew509, hf⟩ := stp_e hf
          refine lv_iinc (v := w509) (lv' := [(3, .int w509), (0, .ref b), (1, .ref (g 0 0)), (2, .ref (aM 0))]) X.1 X.2.1 dL_law_1134 hl (k := 3) rfl (by rw [ew509]; rfl) (by decide) rfl (fun ls hl => ?_)
          refine lv_goto (tgt := 18) X.1 X.2.1 dL_law_1137 (by decide) ?_
          exact ih _ _ _ _ hf _ _ hP hD hS _ (lv_sub hl [1, 2, 3, 0] rfl)
        · have hf := ite_f hf c508
          refine lv_iconst (v := 0) X.1 X.2.1 dL_law_1132 (by decide) ?_
          exact absurd (z_inj1 hf) (by decide)
      have hf := ite_f hf c500
      refine lv_tableOut (tgt := 1134) X.1 X.2.1 dL_law_33 (by have nc4 := lv_neT c4 (a := 0) (by decide); have nc21 := lv_neT c21 (a := 1) (by decide); have nc34 := lv_neT c34 (a := 2) (by decide); have nc47 := lv_neT c47 (a := 3) (by decide); have nc59 := lv_neT c59 (a := 4) (by decide); have nc76 := lv_neT c76 (a := 5) (by decide); have nc93 := lv_neT c93 (a := 6) (by decide); have nc106 := lv_neT c106 (a := 7) (by decide); have nc123 := lv_neT c123 (a := 8) (by decide); have nc140 := lv_neT c140 (a := 9) (by decide); have nc149 := lv_neT c149 (a := 10) (by decide); have nc166 := lv_neT c166 (a := 11) (by decide); have nc179 := lv_neT c179 (a := 12) (by decide); have nc192 := lv_neT c192 (a := 13) (by decide); have nc209 := lv_neT c209 (a := 14) (by decide); have nc222 := lv_neT c222 (a := 15) (by decide); have nc244 := lv_neT c244 (a := 16) (by decide); have nc261 := lv_neT c261 (a := 17) (by decide); have nc270 := lv_neT c270 (a := 18) (by decide); have nc283 := lv_neT c283 (a := 19) (by decide); have nc292 := lv_neT c292 (a := 20) (by decide); have nc305 := lv_neT c305 (a := 21) (by decide); have nc314 := lv_neT c314 (a := 22) (by decide); have nc340 := lv_neT c340 (a := 23) (by decide); have nc361 := lv_neT c361 (a := 24) (by decide); have nc382 := lv_neT c382 (a := 25) (by decide); have nc395 := lv_neT c395 (a := 26) (by decide); have nc420 := lv_neT c420 (a := 27) (by decide); have nc441 := lv_neT c441 (a := 28) (by decide); have nc470 := lv_neT c470 (a := 29) (by decide); have nc487 := lv_neT c487 (a := 30) (by decide); have nc500 := lv_neT c500 (a := 31) (by decide); omega) (by decide) ?_
      obtain ⟨w510, ew510, hf⟩ := stp_e hf
      refine lv_iinc (v := w510) (lv' := [(3, .int w510), (0, .ref b), (1, .ref (g 0 0)), (2, .ref (aM 0))]) X.1 X.2.1 dL_law_1134 hl (k := 3) rfl (by rw [ew510]; rfl) (by decide) rfl (fun ls hl => ?_)
      refine lv_goto (tgt := 18) X.1 X.2.1 dL_law_1137 (by decide) ?_
      exact ih _ _ _ _ hf _ _ hP hD hS _ (lv_sub hl [1, 2, 3, 0] rfl)
