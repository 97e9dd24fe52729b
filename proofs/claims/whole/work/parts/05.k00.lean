abbrev rmJ6_bitCount_0f7a4 : Room := { frames := 0, cells := 0, slots := 0, locals := 0 }
set_option maxHeartbeats 4000000 in
set_option maxRecDepth 100000 in
theorem kJ6_bitCount_0f7a4 (l : Launch) (D : va_G) (K : Nat → ClassId)   (sz : Nat) (x1 : Int32) (q_ : Int32) (hf : fJ6_bitCount_0f7a4 x1 = some q_) : Met l yJ6_bitCount_0f7a4 (bw (Cond.code yJ6_bitCount_0f7a4 cJ6_bitCount_0f7a4 1 (some .int))) rmJ6_bitCount_0f7a4 (va_Pc [.int x1] (zB D K sz (([] : va_W)))) (zQ (some (.int q_)) D (va_A (([] : va_W)) sz) (([] : va_W))) 0 0 (va_A (([] : va_W)) sz) := by
  refine z_of (cc := cJ6_bitCount_0f7a4) (maxL := 1) (ret := (some .int)) (own := RJ6) (lv := [(0, .int x1)]) (by decide) rfl rfl (Nat.le_of_ble_eq_true rfl) rfl ?_
  intro p e s m below meth c X hr hlk hK hN hsz hP hD hA hS hin ls hl
  generalize va_A (([] : va_W)) sz = A at hD hA hS hN ⊢
  rw [fJ6_bitCount_0f7a4] at hf
  refine lv_iload_n X.1 X.2.1 dJ6_bitCount_0f7a4_0 rfl (lv_at hl 0 rfl) ?_
  refine lv_iload_n X.1 X.2.1 dJ6_bitCount_0f7a4_1 rfl (lv_at hl 0 rfl) ?_
  refine lv_iconst (v := 1) X.1 X.2.1 dJ6_bitCount_0f7a4_2 (by decide) ?_
  refine lv_iushr X.1 X.2.1 dJ6_bitCount_0f7a4_3 rfl ?_
  refine lv_ldcw (v := 1431655765) X.1 X.2.1 X.2.2.2.1 (X.2.2.2.2 _ (bw_in W27_18)) dJ6_bitCount_0f7a4_4 ?_
  refine lv_iand X.1 X.2.1 dJ6_bitCount_0f7a4_7 ?_
  refine lv_isub X.1 X.2.1 dJ6_bitCount_0f7a4_8 ?_
  obtain ⟨w1, ew1, hf⟩ := stp_e hf
  refine z_top ew1 ?_
  refine lv_istore_n (lv' := [(0, .int w1)]) X.1 X.2.1 dJ6_bitCount_0f7a4_9 rfl hl (by decide) rfl (fun ls hl => ?_)
  refine lv_iload_n X.1 X.2.1 dJ6_bitCount_0f7a4_10 rfl (lv_at hl 0 rfl) ?_
  refine lv_ldcw (v := 858993459) X.1 X.2.1 X.2.2.2.1 (X.2.2.2.2 _ (bw_in W27_19)) dJ6_bitCount_0f7a4_11 ?_
  refine lv_iand X.1 X.2.1 dJ6_bitCount_0f7a4_14 ?_
  refine lv_iload_n X.1 X.2.1 dJ6_bitCount_0f7a4_15 rfl (lv_at hl 0 rfl) ?_
  refine lv_iconst (v := 2) X.1 X.2.1 dJ6_bitCount_0f7a4_16 (by decide) ?_
  refine lv_iushr X.1 X.2.1 dJ6_bitCount_0f7a4_17 rfl ?_
  refine lv_ldcw (v := 858993459) X.1 X.2.1 X.2.2.2.1 (X.2.2.2.2 _ (bw_in W27_19)) dJ6_bitCount_0f7a4_18 ?_
  refine lv_iand X.1 X.2.1 dJ6_bitCount_0f7a4_21 ?_
  refine lv_iadd X.1 X.2.1 dJ6_bitCount_0f7a4_22 ?_
  obtain ⟨w2, ew2, hf⟩ := stp_e hf
  refine z_top ew2 ?_
  refine lv_istore_n (lv' := [(0, .int w2)]) X.1 X.2.1 dJ6_bitCount_0f7a4_23 rfl hl (by decide) rfl (fun ls hl => ?_)
  refine lv_iload_n X.1 X.2.1 dJ6_bitCount_0f7a4_24 rfl (lv_at hl 0 rfl) ?_
  refine lv_iload_n X.1 X.2.1 dJ6_bitCount_0f7a4_25 rfl (lv_at hl 0 rfl) ?_
  refine lv_iconst (v := 4) X.1 X.2.1 dJ6_bitCount_0f7a4_26 (by decide) ?_
  refine lv_iushr X.1 X.2.1 dJ6_bitCount_0f7a4_27 rfl ?_
  refine lv_iadd X.1 X.2.1 dJ6_bitCount_0f7a4_28 ?_
  refine lv_ldcw (v := 252645135) X.1 X.2.1 X.2.2.2.1 (X.2.2.2.2 _ (bw_in W27_20)) dJ6_bitCount_0f7a4_29 ?_
  refine lv_iand X.1 X.2.1 dJ6_bitCount_0f7a4_32 ?_
  obtain ⟨w3, ew3, hf⟩ := stp_e hf
  refine z_top ew3 ?_
  refine lv_istore_n (lv' := [(0, .int w3)]) X.1 X.2.1 dJ6_bitCount_0f7a4_33 rfl hl (by decide) rfl (fun ls hl => ?_)
  refine lv_iload_n X.1 X.2.1 dJ6_bitCount_0f7a4_34 rfl (lv_at hl 0 rfl) ?_
  refine lv_iload_n X.1 X.2.1 dJ6_bitCount_0f7a4_35 rfl (lv_at hl 0 rfl) ?_
  refine lv_bipush (v := 8) X.1 X.2.1 dJ6_bitCount_0f7a4_36 (by decide) ?_
  refine lv_iushr X.1 X.2.1 dJ6_bitCount_0f7a4_38 rfl ?_
  refine lv_iadd X.1 X.2.1 dJ6_bitCount_0f7a4_39 ?_
  obtain ⟨w4, ew4, hf⟩ := stp_e hf
  refine z_top ew4 ?_
  refine lv_istore_n (lv' := [(0, .int w4)]) X.1 X.2.1 dJ6_bitCount_0f7a4_40 rfl hl (by decide) rfl (fun ls hl => ?_)
  refine lv_iload_n X.1 X.2.1 dJ6_bitCount_0f7a4_41 rfl (lv_at hl 0 rfl) ?_
  refine lv_iload_n X.1 X.2.1 dJ6_bitCount_0f7a4_42 rfl (lv_at hl 0 rfl) ?_
  refine lv_bipush (v := 16) X.1 X.2.1 dJ6_bitCount_0f7a4_43 (by decide) ?_
  refine lv_iushr X.1 X.2.1 dJ6_bitCount_0f7a4_45 rfl ?_
  refine lv_iadd X.1 X.2.1 dJ6_bitCount_0f7a4_46 ?_
  obtain ⟨w5, ew5, hf⟩ := stp_e hf
  refine z_top ew5 ?_
  refine lv_istore_n (lv' := [(0, .int w5)]) X.1 X.2.1 dJ6_bitCount_0f7a4_47 rfl hl (by decide) rfl (fun ls hl => ?_)
  refine lv_iload_n X.1 X.2.1 dJ6_bitCount_0f7a4_48 rfl (lv_at hl 0 rfl) ?_
  refine lv_bipush (v := 63) X.1 X.2.1 dJ6_bitCount_0f7a4_49 (by decide) ?_
  refine lv_iand X.1 X.2.1 dJ6_bitCount_0f7a4_51 ?_
  obtain rfl := z_inj1 hf
  exact z_iret X hr hlk hP hD hS dJ6_bitCount_0f7a4_52
abbrev rmJ7_fill_53178 : Room := { frames := 0, cells := 0, slots := 0, locals := 0 }
set_option maxHeartbeats 4000000 in
set_option maxRecDepth 100000 in
theorem kJ7_fill_53178 (l : Launch) (D : va_G) (K : Nat → ClassId) (aA : Nat) (nA : Nat) (a0 : Nat → Int32) (sz : Nat) (x2 : Int32) (a_ : Nat → Int32) (hf : fJ7_fill_53178 nA a0 x2 = some a_) : Met l yJ7_fill_53178 (bw (Cond.code yJ7_fill_53178 cJ7_fill_53178 4 none)) rmJ7_fill_53178 (va_Pc [.ref aA, .int x2] (zB D K sz (wbARR K aA nA a0))) (zQ (none) D (va_A (wbARR K aA nA a0) sz) (wbARR K aA nA a_)) 0 0 (va_A (wbARR K aA nA a0) sz) := by
  refine z_of (cc := cJ7_fill_53178) (maxL := 4) (ret := none) (own := RJ7) (lv := [(0, .ref aA), (1, .int x2)]) (by decide) rfl rfl (Nat.le_of_ble_eq_true rfl) rfl ?_
  intro p e s m below meth c X hr hlk hK hN hsz hP hD hA hS hin ls hl
  generalize va_A (wbARR K aA nA a0) sz = A at hD hA hS hN ⊢
  have L5_0 : ∀ (n : Nat), ∀ (n5_0 : Int32) (n5_1 : Int32) (n5_2 : Int32) (q5_A : Nat → Int32), fJ7_fill_53178_5 nA n n5_0 n5_1 n5_2 q5_A = some a_ → ∀ (H : Heap) (locs : List Loc), va_P D vwCl (wbARR K aA nA q5_A) H → va_D A (wbARR K aA nA q5_A) → va_S A s.heap H locs → ∀ (ls : Array Slot), lv_has ls 4 [(0, .ref aA), (1, .int n5_0), (2, .int n5_1), (3, .int n5_2)] → W p l e rmJ7_fill_53178 s m ([.ref aA, .int x2] : List Value).toArray below meth c H locs 0 0 (MQ below (zQ (none) D A (wbARR K aA nA a_)) ([.ref aA, .int x2] : List Value).toArray s 0 0 A) (F0 m 5 ls []) := by
    intro n
    induction n with
    | zero =>
      intro n5_0 n5_1 n5_2 q5_A hf
      rw [fJ7_fill_53178_5] at hf
      cases hf
    | succ n ih =>
      intro n5_0 n5_1 n5_2 q5_A hf H locs hP hD hS ls hl
      rw [fJ7_fill_53178_5] at hf
      refine lv_iload_n X.1 X.2.1 dJ7_fill_53178_5 rfl (lv_at hl 2 rfl) ?_
      refine lv_iload_n X.1 X.2.1 dJ7_fill_53178_6 rfl (lv_at hl 3 rfl) ?_
      refine lv_icmp_ge (tgt := 20) X.1 X.2.1 dJ7_fill_53178_7 (by decide) (fun c2 => ?_) (fun c2 => ?_)
      · have hf := ite_t hf c2
        obtain rfl := z_inj1 hf
        exact z_vret X hr hlk hP hD hS dJ7_fill_53178_20
      · have hf := ite_f hf c2
        refine lv_aload_n X.1 X.2.1 dJ7_fill_53178_10 rfl (lv_at hl 0 rfl) ?_
        refine lv_iload_n X.1 X.2.1 dJ7_fill_53178_11 rfl (lv_at hl 2 rfl) ?_
        refine lv_iload_n X.1 X.2.1 dJ7_fill_53178_12 rfl (lv_at hl 1 rfl) ?_
        obtain ⟨hi3, hf⟩ := chk_e hf
        obtain ⟨a4, ea4, hf⟩ := stp_e hf
        refine z_iast (ws' := wbARR K aA nA a4) X hK hP hD hS 0 rfl hi3 dJ7_fill_53178_13 (by rw [ea4]; rfl) (fun H locs hP hD hS => ?_)
        obtain ⟨w5, ew5, hf⟩ := stp_e hf
        refine lv_iinc (v := w5) (lv' := [(2, .int w5), (0, .ref aA), (1, .int n5_0), (3, .int n5_2)]) X.1 X.2.1 dJ7_fill_53178_14 hl (k := 2) rfl (by rw [ew5]; rfl) (by decide) rfl (fun ls hl => ?_)
        refine lv_goto (tgt := 5) X.1 X.2.1 dJ7_fill_53178_17 (by decide) ?_
        exact ih _ _ _ _ hf _ _ hP hD hS _ (lv_sub hl [1, 2, 0, 3] rfl)
  rw [fJ7_fill_53178] at hf
  refine lv_iconst (v := 0) X.1 X.2.1 dJ7_fill_53178_0 (by decide) ?_
  refine lv_istore_n (lv' := [(2, .int 0), (0, .ref aA), (1, .int x2)]) X.1 X.2.1 dJ7_fill_53178_1 rfl hl (by decide) rfl (fun ls hl => ?_)
  refine lv_aload_n X.1 X.2.1 dJ7_fill_53178_2 rfl (lv_at hl 1 rfl) ?_
  refine z_alen (v := Int32.ofNat nA) X hK hP 0 0 rfl rfl rfl dJ7_fill_53178_3 ?_
  obtain ⟨w1, ew1, hf⟩ := stp_e hf
  refine z_top ew1 ?_
  refine lv_istore_n (lv' := [(3, .int w1), (2, .int 0), (0, .ref aA), (1, .int x2)]) X.1 X.2.1 dJ7_fill_53178_4 rfl hl (by decide) rfl (fun ls hl => ?_)
  exact L5_0  _ _ _ _ _ hf _ _ hP hD hS _ (lv_sub hl [2, 3, 1, 0] rfl)
abbrev rmX7_append : Room := { frames := 0, cells := 0, slots := 0, locals := 0 }
set_option maxHeartbeats 4000000 in
set_option maxRecDepth 100000 in
theorem kX7_append (l : Launch) (D : va_G) (K : Nat → ClassId) (aT : Nat → Nat) (t0 : St) (sz : Nat) (x1 : Int32) (q_ : Int32) (t_ : St) (hf : fX7_append t0 x1 = some (q_, t_)) : Met l yX7_append (bw (Cond.code yX7_append cX7_append 2 (some .boolean))) rmX7_append (va_Pc [.ref (aT 0), .int x1] (zB D K sz (wbX7 K aT t0))) (zQ (some (.int q_)) D (va_A (wbX7 K aT t0) sz) (wbX7 K aT t_)) 0 0 (va_A (wbX7 K aT t0) sz) := by
  refine z_of (cc := cX7_append) (maxL := 2) (ret := (some .boolean)) (own := RX7) (lv := [(0, .ref (aT 0)), (1, .int x1)]) (by decide) rfl rfl (Nat.le_of_ble_eq_true rfl) rfl ?_
  intro p e s m below meth c X hr hlk hK hN hsz hP hD hA hS hin ls hl
  generalize va_A (wbX7 K aT t0) sz = A at hD hA hS hN ⊢
  have hiX7 : ∀ w ∈ u_ws RX7 TX7 4, w ∈ (bw (Cond.code yX7_append cX7_append 2 (some .boolean))) := fun w h => bw_in (inlX7 w h)
  rw [fX7_append] at hf
  refine lv_aload_n X.1 X.2.1 dX7_append_0 rfl (lv_at hl 0 rfl) ?_
  refine z_get X hK hP hiX7 0 rfl rfl 3 (by decide) (bw_in W6_2) rfl dX7_append_1 ?_
  refine lv_aload_n X.1 X.2.1 dX7_append_4 rfl (lv_at hl 0 rfl) ?_
  refine z_get X hK hP hiX7 0 rfl rfl 1 (by decide) (bw_in W6_4) rfl dX7_append_5 ?_
  refine lv_icmp_ge (tgt := 23) X.1 X.2.1 dX7_append_8 (by decide) (fun c1 => ?_) (fun c1 => ?_)
  · have hf := ite_t hf c1
    refine lv_iconst (v := 0) X.1 X.2.1 dX7_append_23 (by decide) ?_
    obtain ⟨rfl, rfl⟩ := z_inj2 hf
    exact z_zret X hr hlk (by decide) hP hD hS dX7_append_24
  · have hf := ite_f hf c1
    refine lv_aload_n X.1 X.2.1 dX7_append_11 rfl (lv_at hl 0 rfl) ?_
    refine z_get X hK hP hiX7 0 rfl rfl 3 (by decide) (bw_in W6_2) rfl dX7_append_12 ?_
    refine lv_aload_n X.1 X.2.1 dX7_append_15 rfl (lv_at hl 0 rfl) ?_
    refine z_get X hK hP hiX7 0 rfl rfl 2 (by decide) (bw_in W6_1) rfl dX7_append_16 ?_
    refine z_alen (v := 31) X hK hP 1 0 rfl rfl rfl dX7_append_19 ?_
    refine lv_icmp_lt (tgt := 25) X.1 X.2.1 dX7_append_20 (by decide) (fun c2 => ?_) (fun c2 => ?_)
    · have hf := ite_t hf c2
      refine lv_aload_n X.1 X.2.1 dX7_append_25 rfl (lv_at hl 0 rfl) ?_
      refine z_get X hK hP hiX7 0 rfl rfl 2 (by decide) (bw_in W6_1) rfl dX7_append_26 ?_
      refine lv_aload_n X.1 X.2.1 dX7_append_29 rfl (lv_at hl 0 rfl) ?_
      refine z_get X hK hP hiX7 0 rfl rfl 3 (by decide) (bw_in W6_2) rfl dX7_append_30 ?_
      refine lv_iload_n X.1 X.2.1 dX7_append_33 rfl (lv_at hl 1 rfl) ?_
      obtain ⟨hi3, hf⟩ := chk_e hf
      obtain ⟨t4, et4, hf⟩ := stp_e hf
      refine z_iast (ws' := wbX7 K aT t4) X hK hP hD hS 1 rfl hi3 dX7_append_34 (by rw [et4]; rfl) (fun H locs hP hD hS => ?_)
      refine lv_aload_n X.1 X.2.1 dX7_append_35 rfl (lv_at hl 0 rfl) ?_
      refine lv_dup X.1 X.2.1 dX7_append_36 rfl ?_
      refine z_get X hK hP hiX7 0 rfl rfl 3 (by decide) (bw_in W6_2) rfl dX7_append_37 ?_
      refine lv_iconst (v := 1) X.1 X.2.1 dX7_append_40 (by decide) ?_
      refine lv_iadd X.1 X.2.1 dX7_append_41 ?_
      obtain ⟨t5, et5, hf⟩ := stp_e hf
      refine z_put (ws' := wbX7 K aT t5) X hK hP hD hS hiX7 tyX7_ok nmX7 0 rfl rfl 3 (by decide) (bw_in W6_2) rfl rfl rfl (Nat.le_of_ble_eq_true rfl) dX7_append_42 (by rw [et5]; rfl) (fun H locs hP hD hS => ?_)
      refine lv_iconst (v := 1) X.1 X.2.1 dX7_append_45 (by decide) ?_
      obtain ⟨rfl, rfl⟩ := z_inj2 hf
      exact z_zret X hr hlk (by decide) hP hD hS dX7_append_46
    · have hf := ite_f hf c2
      refine lv_iconst (v := 0) X.1 X.2.1 dX7_append_23 (by decide) ?_
      obtain ⟨rfl, rfl⟩ := z_inj2 hf
      exact z_zret X hr hlk (by decide) hP hD hS dX7_append_24
abbrev rmX7_figure : Room := { frames := 0, cells := 0, slots := 0, locals := 0 }
set_option maxHeartbeats 4000000 in
set_option maxRecDepth 100000 in
theorem kX7_figure (l : Launch) (D : va_G) (K : Nat → ClassId) (aT : Nat → Nat) (t0 : St) (sz : Nat) (x1 : Int32) (q_ : Int32) (hf : fX7_figure t0 x1 = some q_) : Met l yX7_figure (bw (Cond.code yX7_figure cX7_figure 2 (some .int))) rmX7_figure (va_Pc [.ref (aT 0), .int x1] (zB D K sz (wbX7 K aT t0))) (zQ (some (.int q_)) D (va_A (wbX7 K aT t0) sz) (wbX7 K aT t0)) 0 0 (va_A (wbX7 K aT t0) sz) := by
  refine z_of (cc := cX7_figure) (maxL := 2) (ret := (some .int)) (own := RX7) (lv := [(0, .ref (aT 0)), (1, .int x1)]) (by decide) rfl rfl (Nat.le_of_ble_eq_true rfl) rfl ?_
  intro p e s m below meth c X hr hlk hK hN hsz hP hD hA hS hin ls hl
  generalize va_A (wbX7 K aT t0) sz = A at hD hA hS hN ⊢
  have hiX7 : ∀ w ∈ u_ws RX7 TX7 4, w ∈ (bw (Cond.code yX7_figure cX7_figure 2 (some .int))) := fun w h => bw_in (inlX7 w h)
  rw [fX7_figure] at hf
  refine lv_iload_n X.1 X.2.1 dX7_figure_0 rfl (lv_at hl 1 rfl) ?_
  refine lv_if_lt (tgt := 13) X.1 X.2.1 dX7_figure_1 (by decide) (fun c1 => ?_) (fun c1 => ?_)
  · have hf := ite_t hf c1
    refine lv_iconst (v := 0) X.1 X.2.1 dX7_figure_13 (by decide) ?_
    refine lv_goto (tgt := 26) X.1 X.2.1 dX7_figure_14 (by decide) ?_
    obtain rfl := z_inj1 hf
    exact z_iret X hr hlk hP hD hS dX7_figure_26
  · have hf := ite_f hf c1
    refine lv_iload_n X.1 X.2.1 dX7_figure_4 rfl (lv_at hl 1 rfl) ?_
    refine lv_aload_n X.1 X.2.1 dX7_figure_5 rfl (lv_at hl 0 rfl) ?_
    refine z_get X hK hP hiX7 0 rfl rfl 2 (by decide) (bw_in W6_1) rfl dX7_figure_6 ?_
    refine z_alen (v := 31) X hK hP 1 0 rfl rfl rfl dX7_figure_9 ?_
    refine lv_icmp_lt (tgt := 17) X.1 X.2.1 dX7_figure_10 (by decide) (fun c2 => ?_) (fun c2 => ?_)
    · have hf := ite_t hf c2
      refine lv_aload_n X.1 X.2.1 dX7_figure_17 rfl (lv_at hl 0 rfl) ?_
      refine z_get X hK hP hiX7 0 rfl rfl 2 (by decide) (bw_in W6_1) rfl dX7_figure_18 ?_
      refine lv_iload_n X.1 X.2.1 dX7_figure_21 rfl (lv_at hl 1 rfl) ?_
      obtain ⟨hi4, hf⟩ := chk_e hf
      obtain ⟨v3, ev3, hf⟩ := stp_e hf
      refine z_iald X hK hP 1 rfl hi4 ev3 dX7_figure_22 ?_
      refine lv_bipush (v := 48) X.1 X.2.1 dX7_figure_23 (by decide) ?_
      refine lv_isub X.1 X.2.1 dX7_figure_25 ?_
      obtain rfl := z_inj1 hf
      exact z_iret X hr hlk hP hD hS dX7_figure_26
    · have hf := ite_f hf c2
      refine lv_iconst (v := 0) X.1 X.2.1 dX7_figure_13 (by decide) ?_
      refine lv_goto (tgt := 26) X.1 X.2.1 dX7_figure_14 (by decide) ?_
      obtain rfl := z_inj1 hf
      exact z_iret X hr hlk hP hD hS dX7_figure_26
abbrev rmX7_mayStand : Room := { frames := 0, cells := 0, slots := 0, locals := 0 }
set_option maxHeartbeats 4000000 in
set_option maxRecDepth 100000 in
theorem kX7_mayStand (l : Launch) (D : va_G) (K : Nat → ClassId) (aT : Nat → Nat) (t0 : St) (sz : Nat) (x1 : Int32) (x2 : Int32) (q_ : Int32) (hf : fX7_mayStand t0 x1 x2 = some q_) : Met l yX7_mayStand (bw (Cond.code yX7_mayStand cX7_mayStand 6 (some .boolean))) rmX7_mayStand (va_Pc [.ref (aT 0), .int x1, .int x2] (zB D K sz (wbX7 K aT t0))) (zQ (some (.int q_)) D (va_A (wbX7 K aT t0) sz) (wbX7 K aT t0)) 0 0 (va_A (wbX7 K aT t0) sz) := by
  refine z_of (cc := cX7_mayStand) (maxL := 6) (ret := (some .boolean)) (own := RX7) (lv := [(0, .ref (aT 0)), (1, .int x1), (2, .int x2)]) (by decide) rfl rfl (Nat.le_of_ble_eq_true rfl) rfl ?_
  intro p e s m below meth c X hr hlk hK hN hsz hP hD hA hS hin ls hl
  generalize va_A (wbX7 K aT t0) sz = A at hD hA hS hN ⊢
  have hiX7 : ∀ w ∈ u_ws RX7 TX7 4, w ∈ (bw (Cond.code yX7_mayStand cX7_mayStand 6 (some .boolean))) := fun w h => bw_in (inlX7 w h)
  rw [fX7_mayStand] at hf
  refine lv_iload_n X.1 X.2.1 dX7_mayStand_0 rfl (lv_at hl 1 rfl) ?_
  refine lv_iconst (v := 4) X.1 X.2.1 dX7_mayStand_1 (by decide) ?_
  refine lv_irem X.1 X.2.1 dX7_mayStand_2 (by decide) ?_
  obtain ⟨w1, ew1, hf⟩ := stp_e hf
  refine z_top ew1 ?_
  refine lv_istore_n (lv' := [(3, .int w1), (0, .ref (aT 0)), (1, .int x1), (2, .int x2)]) X.1 X.2.1 dX7_mayStand_3 rfl hl (by decide) rfl (fun ls hl => ?_)
  refine lv_aload_n X.1 X.2.1 dX7_mayStand_4 rfl (lv_at hl 1 rfl) ?_
  refine z_get X hK hP hiX7 0 rfl rfl 0 (by decide) (bw_in W6_3) rfl dX7_mayStand_5 ?_
  refine lv_iconst (v := 2) X.1 X.2.1 dX7_mayStand_8 (by decide) ?_
  refine lv_icmp_eq (tgt := 29) X.1 X.2.1 dX7_mayStand_9 (by decide) (fun c2 => ?_) (fun c2 => ?_)
  · have hf := ite_t hf c2
    refine lv_aload_n X.1 X.2.1 dX7_mayStand_29 rfl (lv_at hl 1 rfl) ?_
    refine z_get X hK hP hiX7 0 rfl rfl 0 (by decide) (bw_in W6_3) rfl dX7_mayStand_30 ?_
    refine lv_if_ne (tgt := 44) X.1 X.2.1 dX7_mayStand_33 (by decide) (fun c3 => ?_) (fun c3 => ?_)
    · have hf := ite_f hf c3
      refine lv_iconst (v := 0) X.1 X.2.1 dX7_mayStand_44 (by decide) ?_
      refine lv_istore (lv' := [(4, .int 0), (3, .int w1), (0, .ref (aT 0)), (1, .int x1), (2, .int x2)]) X.1 X.2.1 dX7_mayStand_45 hl (by decide) rfl (fun ls hl => ?_)
      refine lv_aload_n X.1 X.2.1 dX7_mayStand_47 rfl (lv_at hl 2 rfl) ?_
      refine z_get X hK hP hiX7 0 rfl rfl 0 (by decide) (bw_in W6_3) rfl dX7_mayStand_48 ?_
      refine lv_iconst (v := 1) X.1 X.2.1 dX7_mayStand_51 (by decide) ?_
      refine lv_icmp_ne (tgt := 65) X.1 X.2.1 dX7_mayStand_52 (by decide) (fun c4 => ?_) (fun c4 => ?_)
      · have hf := ite_f hf c4
        refine lv_bipush (v := 9) X.1 X.2.1 dX7_mayStand_65 (by decide) ?_
        refine lv_istore (lv' := [(5, .int 9), (4, .int 0), (3, .int w1), (0, .ref (aT 0)), (1, .int x1), (2, .int x2)]) X.1 X.2.1 dX7_mayStand_67 hl (by decide) rfl (fun ls hl => ?_)
        refine lv_iload_n X.1 X.2.1 dX7_mayStand_69 rfl (lv_at hl 5 rfl) ?_
        refine lv_bipush (v := 48) X.1 X.2.1 dX7_mayStand_70 (by decide) ?_
        refine lv_iload X.1 X.2.1 dX7_mayStand_72 (lv_at hl 1 rfl) ?_
        refine lv_iadd X.1 X.2.1 dX7_mayStand_74 ?_
        refine lv_icmp_lt (tgt := 91) X.1 X.2.1 dX7_mayStand_75 (by decide) (fun c5 => ?_) (fun c5 => ?_)
        · have hf := ite_t hf c5
          refine lv_iconst (v := 0) X.1 X.2.1 dX7_mayStand_91 (by decide) ?_
          obtain rfl := z_inj1 hf
          exact z_zret X hr hlk (by decide) hP hD hS dX7_mayStand_92
        · have hf := ite_f hf c5
          refine lv_iload_n X.1 X.2.1 dX7_mayStand_78 rfl (lv_at hl 5 rfl) ?_
          refine lv_bipush (v := 48) X.1 X.2.1 dX7_mayStand_79 (by decide) ?_
          refine lv_iload X.1 X.2.1 dX7_mayStand_81 (lv_at hl 0 rfl) ?_
          refine lv_iadd X.1 X.2.1 dX7_mayStand_83 ?_
          refine lv_icmp_gt (tgt := 91) X.1 X.2.1 dX7_mayStand_84 (by decide) (fun c6 => ?_) (fun c6 => ?_)
          · have hf := ite_t hf c6
            refine lv_iconst (v := 0) X.1 X.2.1 dX7_mayStand_91 (by decide) ?_
            obtain rfl := z_inj1 hf
            exact z_zret X hr hlk (by decide) hP hD hS dX7_mayStand_92
          · have hf := ite_f hf c6
            refine lv_iconst (v := 1) X.1 X.2.1 dX7_mayStand_87 (by decide) ?_
            refine lv_goto (tgt := 92) X.1 X.2.1 dX7_mayStand_88 (by decide) ?_
            obtain rfl := z_inj1 hf
            exact z_zret X hr hlk (by decide) hP hD hS dX7_mayStand_92
      · have hf := ite_t hf c4
        refine lv_iload_n X.1 X.2.1 dX7_mayStand_55 rfl (lv_at hl 1 rfl) ?_
        refine lv_iconst (v := 2) X.1 X.2.1 dX7_mayStand_56 (by decide) ?_
        refine lv_icmp_ne (tgt := 65) X.1 X.2.1 dX7_mayStand_57 (by decide) (fun c7 => ?_) (fun c7 => ?_)
        · have hf := ite_f hf c7
          refine lv_bipush (v := 9) X.1 X.2.1 dX7_mayStand_65 (by decide) ?_
          refine lv_istore (lv' := [(5, .int 9), (4, .int 0), (3, .int w1), (0, .ref (aT 0)), (1, .int x1), (2, .int x2)]) X.1 X.2.1 dX7_mayStand_67 hl (by decide) rfl (fun ls hl => ?_)
          refine lv_iload_n X.1 X.2.1 dX7_mayStand_69 rfl (lv_at hl 5 rfl) ?_
          refine lv_bipush (v := 48) X.1 X.2.1 dX7_mayStand_70 (by decide) ?_
          refine lv_iload X.1 X.2.1 dX7_mayStand_72 (lv_at hl 1 rfl) ?_
          refine lv_iadd X.1 X.2.1 dX7_mayStand_74 ?_
          refine lv_icmp_lt (tgt := 91) X.1 X.2.1 dX7_mayStand_75 (by decide) (fun c8 => ?_) (fun c8 => ?_)
          · have hf := ite_t hf c8
            refine lv_iconst (v := 0) X.1 X.2.1 dX7_mayStand_91 (by decide) ?_
            obtain rfl := z_inj1 hf
            exact z_zret X hr hlk (by decide) hP hD hS dX7_mayStand_92
          · have hf := ite_f hf c8
            refine lv_iload_n X.1 X.2.1 dX7_mayStand_78 rfl (lv_at hl 5 rfl) ?_
            refine lv_bipush (v := 48) X.1 X.2.1 dX7_mayStand_79 (by decide) ?_
            refine lv_iload X.1 X.2.1 dX7_mayStand_81 (lv_at hl 0 rfl) ?_
            refine lv_iadd X.1 X.2.1 dX7_mayStand_83 ?_
            refine lv_icmp_gt (tgt := 91) X.1 X.2.1 dX7_mayStand_84 (by decide) (fun c9 => ?_) (fun c9 => ?_)
            · have hf := ite_t hf c9
              refine lv_iconst (v := 0) X.1 X.2.1 dX7_mayStand_91 (by decide) ?_
              obtain rfl := z_inj1 hf
              exact z_zret X hr hlk (by decide) hP hD hS dX7_mayStand_92
            · have hf := ite_f hf c9
              refine lv_iconst (v := 1) X.1 X.2.1 dX7_mayStand_87 (by decide) ?_
              refine lv_goto (tgt := 92) X.1 X.2.1 dX7_mayStand_88 (by decide) ?_
              obtain rfl := z_inj1 hf
              exact z_zret X hr hlk (by decide) hP hD hS dX7_mayStand_92
        · have hf := ite_t hf c7
          refine lv_bipush (v := 7) X.1 X.2.1 dX7_mayStand_60 (by decide) ?_
          refine lv_goto (tgt := 67) X.1 X.2.1 dX7_mayStand_62 (by decide) ?_
          refine lv_istore (lv' := [(5, .int 7), (4, .int 0), (3, .int w1), (0, .ref (aT 0)), (1, .int x1), (2, .int x2)]) X.1 X.2.1 dX7_mayStand_67 hl (by decide) rfl (fun ls hl => ?_)
          refine lv_iload_n X.1 X.2.1 dX7_mayStand_69 rfl (lv_at hl 5 rfl) ?_
          refine lv_bipush (v := 48) X.1 X.2.1 dX7_mayStand_70 (by decide) ?_
          refine lv_iload X.1 X.2.1 dX7_mayStand_72 (lv_at hl 1 rfl) ?_
          refine lv_iadd X.1 X.2.1 dX7_mayStand_74 ?_
          refine lv_icmp_lt (tgt := 91) X.1 X.2.1 dX7_mayStand_75 (by decide) (fun c10 => ?_) (fun c10 => ?_)
          · have hf := ite_t hf c10
            refine lv_iconst (v := 0) X.1 X.2.1 dX7_mayStand_91 (by decide) ?_
            obtain rfl := z_inj1 hf
            exact z_zret X hr hlk (by decide) hP hD hS dX7_mayStand_92
          · have hf := ite_f hf c10
            refine lv_iload_n X.1 X.2.1 dX7_mayStand_78 rfl (lv_at hl 5 rfl) ?_
            refine lv_bipush (v := 48) X.1 X.2.1 dX7_mayStand_79 (by decide) ?_
            refine lv_iload X.1 X.2.1 dX7_mayStand_81 (lv_at hl 0 rfl) ?_
            refine lv_iadd X.1 X.2.1 dX7_mayStand_83 ?_
            refine lv_icmp_gt (tgt := 91) X.1 X.2.1 dX7_mayStand_84 (by decide) (fun c11 => ?_) (fun c11 => ?_)
            · have hf := ite_t hf c11
              refine lv_iconst (v := 0) X.1 X.2.1 dX7_mayStand_91 (by decide) ?_
              obtain rfl := z_inj1 hf
              exact z_zret X hr hlk (by decide) hP hD hS dX7_mayStand_92
            · have hf := ite_f hf c11
              refine lv_iconst (v := 1) X.1 X.2.1 dX7_mayStand_87 (by decide) ?_
              refine lv_goto (tgt := 92) X.1 X.2.1 dX7_mayStand_88 (by decide) ?_
              obtain rfl := z_inj1 hf
              exact z_zret X hr hlk (by decide) hP hD hS dX7_mayStand_92
    · have hf := ite_t hf c3
      refine lv_iload_n X.1 X.2.1 dX7_mayStand_36 rfl (lv_at hl 0 rfl) ?_
      refine lv_if_ne (tgt := 44) X.1 X.2.1 dX7_mayStand_37 (by decide) (fun c12 => ?_) (fun c12 => ?_)
      · have hf := ite_f hf c12
        refine lv_iconst (v := 0) X.1 X.2.1 dX7_mayStand_44 (by decide) ?_
        refine lv_istore (lv' := [(4, .int 0), (3, .int w1), (0, .ref (aT 0)), (1, .int x1), (2, .int x2)]) X.1 X.2.1 dX7_mayStand_45 hl (by decide) rfl (fun ls hl => ?_)
        refine lv_aload_n X.1 X.2.1 dX7_mayStand_47 rfl (lv_at hl 2 rfl) ?_
        refine z_get X hK hP hiX7 0 rfl rfl 0 (by decide) (bw_in W6_3) rfl dX7_mayStand_48 ?_
        refine lv_iconst (v := 1) X.1 X.2.1 dX7_mayStand_51 (by decide) ?_
        refine lv_icmp_ne (tgt := 65) X.1 X.2.1 dX7_mayStand_52 (by decide) (fun c13 => ?_) (fun c13 => ?_)
        · have hf := ite_f hf c13
          refine lv_bipush (v := 9) X.1 X.2.1 dX7_mayStand_65 (by decide) ?_
          refine lv_istore (lv' := [(5, .int 9), (4, .int 0), (3, .int w1), (0, .ref (aT 0)), (1, .int x1), (2, .int x2)]) X.1 X.2.1 dX7_mayStand_67 hl (by decide) rfl (fun ls hl => ?_)
          refine lv_iload_n X.1 X.2.1 dX7_mayStand_69 rfl (lv_at hl 5 rfl) ?_
          refine lv_bipush (v := 48) X.1 X.2.1 dX7_mayStand_70 (by decide) ?_
          refine lv_iload X.1 X.2.1 dX7_mayStand_72 (lv_at hl 1 rfl) ?_
          refine lv_iadd X.1 X.2.1 dX7_mayStand_74 ?_
          refine lv_icmp_lt (tgt := 91) X.1 X.2.1 dX7_mayStand_75 (by decide) (fun c14 => ?_) (fun c14 => ?_)
          · have hf := ite_t hf c14
            refine lv_iconst (v := 0) X.1 X.2.1 dX7_mayStand_91 (by decide) ?_
            obtain rfl := z_inj1 hf
            exact z_zret X hr hlk (by decide) hP hD hS dX7_mayStand_92
          · have hf := ite_f hf c14
            refine lv_iload_n X.1 X.2.1 dX7_mayStand_78 rfl (lv_at hl 5 rfl) ?_
            refine lv_bipush (v := 48) X.1 X.2.1 dX7_mayStand_79 (by decide) ?_
            refine lv_iload X.1 X.2.1 dX7_mayStand_81 (lv_at hl 0 rfl) ?_
            refine lv_iadd X.1 X.2.1 dX7_mayStand_83 ?_
            refine lv_icmp_gt (tgt := 91) X.1 X.2.1 dX7_mayStand_84 (by decide) (fun c15 => ?_) (fun c15 => ?_)
            · have hf := ite_t hf c15
              refine lv_iconst (v := 0) X.1 X.2.1 dX7_mayStand_91 (by decide) ?_
              obtain rfl := z_inj1 hf
              exact z_zret X hr hlk (by decide) hP hD hS dX7_mayStand_92
            · have hf := ite_f hf c15
              refine lv_iconst (v := 1) X.1 X.2.1 dX7_mayStand_87 (by decide) ?_
              refine lv_goto (tgt := 92) X.1 X.2.1 dX7_mayStand_88 (by decide) ?_
              obtain rfl := z_inj1 hf
              exact z_zret X hr hlk (by decide) hP hD hS dX7_mayStand_92
        · have hf := ite_t hf c13
          refine lv_iload_n X.1 X.2.1 dX7_mayStand_55 rfl (lv_at hl 1 rfl) ?_
          refine lv_iconst (v := 2) X.1 X.2.1 dX7_mayStand_56 (by decide) ?_
          refine lv_icmp_ne (tgt := 65) X.1 X.2.1 dX7_mayStand_57 (by decide) (fun c16 => ?_) (fun c16 => ?_)
          · have hf := ite_f hf c16
            refine lv_bipush (v := 9) X.1 X.2.1 dX7_mayStand_65 (by decide) ?_
            refine lv_istore (lv' := [(5, .int 9), (4, .int 0), (3, .int w1), (0, .ref (aT 0)), (1, .int x1), (2, .int x2)]) X.1 X.2.1 dX7_mayStand_67 hl (by decide) rfl (fun ls hl => ?_)
            refine lv_iload_n X.1 X.2.1 dX7_mayStand_69 rfl (lv_at hl 5 rfl) ?_
            refine lv_bipush (v := 48) X.1 X.2.1 dX7_mayStand_70 (by decide) ?_
            refine lv_iload X.1 X.2.1 dX7_mayStand_72 (lv_at hl 1 rfl) ?_
            refine lv_iadd X.1 X.2.1 dX7_mayStand_74 ?_
            refine lv_icmp_lt (tgt := 91) X.1 X.2.1 dX7_mayStand_75 (by decide) (fun c17 => ?_) (fun c17 => ?_)
            · have hf := ite_t hf c17
              refine lv_iconst (v := 0) X.1 X.2.1 dX7_mayStand_91 (by decide) ?_
              obtain rfl := z_inj1 hf
              exact z_zret X hr hlk (by decide) hP hD hS dX7_mayStand_92
            · have hf := ite_f hf c17
              refine lv_iload_n X.1 X.2.1 dX7_mayStand_78 rfl (lv_at hl 5 rfl) ?_
              refine lv_bipush (v := 48) X.1 X.2.1 dX7_mayStand_79 (by decide) ?_
              refine lv_iload X.1 X.2.1 dX7_mayStand_81 (lv_at hl 0 rfl) ?_
              refine lv_iadd X.1 X.2.1 dX7_mayStand_83 ?_
              refine lv_icmp_gt (tgt := 91) X.1 X.2.1 dX7_mayStand_84 (by decide) (fun c18 => ?_) (fun c18 => ?_)
              · have hf := ite_t hf c18
                refine lv_iconst (v := 0) X.1 X.2.1 dX7_mayStand_91 (by decide) ?_
                obtain rfl := z_inj1 hf
                exact z_zret X hr hlk (by decide) hP hD hS dX7_mayStand_92
              · have hf := ite_f hf c18
                refine lv_iconst (v := 1) X.1 X.2.1 dX7_mayStand_87 (by decide) ?_
                refine lv_goto (tgt := 92) X.1 X.2.1 dX7_mayStand_88 (by decide) ?_
                obtain rfl := z_inj1 hf
                exact z_zret X hr hlk (by decide) hP hD hS dX7_mayStand_92
          · have hf := ite_t hf c16
            refine lv_bipush (v := 7) X.1 X.2.1 dX7_mayStand_60 (by decide) ?_
            refine lv_goto (tgt := 67) X.1 X.2.1 dX7_mayStand_62 (by decide) ?_
            refine lv_istore (lv' := [(5, .int 7), (4, .int 0), (3, .int w1), (0, .ref (aT 0)), (1, .int x1), (2, .int x2)]) X.1 X.2.1 dX7_mayStand_67 hl (by decide) rfl (fun ls hl => ?_)
            refine lv_iload_n X.1 X.2.1 dX7_mayStand_69 rfl (lv_at hl 5 rfl) ?_
            refine lv_bipush (v := 48) X.1 X.2.1 dX7_mayStand_70 (by decide) ?_
            refine lv_iload X.1 X.2.1 dX7_mayStand_72 (lv_at hl 1 rfl) ?_
            refine lv_iadd X.1 X.2.1 dX7_mayStand_74 ?_
            refine lv_icmp_lt (tgt := 91) X.1 X.2.1 dX7_mayStand_75 (by decide) (fun c19 => ?_) (fun c19 => ?_)
            · have hf := ite_t hf c19
              refine lv_iconst (v := 0) X.1 X.2.1 dX7_mayStand_91 (by decide) ?_
              obtain rfl := z_inj1 hf
              exact z_zret X hr hlk (by decide) hP hD hS dX7_mayStand_92
            · have hf := ite_f hf c19
              refine lv_iload_n X.1 X.2.1 dX7_mayStand_78 rfl (lv_at hl 5 rfl) ?_
              refine lv_bipush (v := 48) X.1 X.2.1 dX7_mayStand_79 (by decide) ?_
              refine lv_iload X.1 X.2.1 dX7_mayStand_81 (lv_at hl 0 rfl) ?_
              refine lv_iadd X.1 X.2.1 dX7_mayStand_83 ?_
              refine lv_icmp_gt (tgt := 91) X.1 X.2.1 dX7_mayStand_84 (by decide) (fun c20 => ?_) (fun c20 => ?_)
              · have hf := ite_t hf c20
                refine lv_iconst (v := 0) X.1 X.2.1 dX7_mayStand_91 (by decide) ?_
                obtain rfl := z_inj1 hf
                exact z_zret X hr hlk (by decide) hP hD hS dX7_mayStand_92
              · have hf := ite_f hf c20
                refine lv_iconst (v := 1) X.1 X.2.1 dX7_mayStand_87 (by decide) ?_
                refine lv_goto (tgt := 92) X.1 X.2.1 dX7_mayStand_88 (by decide) ?_
                obtain rfl := z_inj1 hf
                exact z_zret X hr hlk (by decide) hP hD hS dX7_mayStand_92
      · have hf := ite_t hf c12
        refine lv_iconst (v := 1) X.1 X.2.1 dX7_mayStand_40 (by decide) ?_
        refine lv_goto (tgt := 45) X.1 X.2.1 dX7_mayStand_41 (by decide) ?_
        refine lv_istore (lv' := [(4, .int 1), (3, .int w1), (0, .ref (aT 0)), (1, .int x1), (2, .int x2)]) X.1 X.2.1 dX7_mayStand_45 hl (by decide) rfl (fun ls hl => ?_)
        refine lv_aload_n X.1 X.2.1 dX7_mayStand_47 rfl (lv_at hl 2 rfl) ?_
        refine z_get X hK hP hiX7 0 rfl rfl 0 (by decide) (bw_in W6_3) rfl dX7_mayStand_48 ?_
        refine lv_iconst (v := 1) X.1 X.2.1 dX7_mayStand_51 (by decide) ?_
        refine lv_icmp_ne (tgt := 65) X.1 X.2.1 dX7_mayStand_52 (by decide) (fun c21 => ?_) (fun c21 => ?_)
        · have hf := ite_f hf c21
          refine lv_bipush (v := 9) X.1 X.2.1 dX7_mayStand_65 (by decide) ?_
          refine lv_istore (lv' := [(5, .int 9), (4, .int 1), (3, .int w1), (0, .ref (aT 0)), (1, .int x1), (2, .int x2)]) X.1 X.2.1 dX7_mayStand_67 hl (by decide) rfl (fun ls hl => ?_)
          refine lv_iload_n X.1 X.2.1 dX7_mayStand_69 rfl (lv_at hl 5 rfl) ?_
          refine lv_bipush (v := 48) X.1 X.2.1 dX7_mayStand_70 (by decide) ?_
          refine lv_iload X.1 X.2.1 dX7_mayStand_72 (lv_at hl 1 rfl) ?_
          refine lv_iadd X.1 X.2.1 dX7_mayStand_74 ?_
          refine lv_icmp_lt (tgt := 91) X.1 X.2.1 dX7_mayStand_75 (by decide) (fun c22 => ?_) (fun c22 => ?_)
          · have hf := ite_t hf c22
            refine lv_iconst (v := 0) X.1 X.2.1 dX7_mayStand_91 (by decide) ?_
            obtain rfl := z_inj1 hf
            exact z_zret X hr hlk (by decide) hP hD hS dX7_mayStand_92
          · have hf := ite_f hf c22
            refine lv_iload_n X.1 X.2.1 dX7_mayStand_78 rfl (lv_at hl 5 rfl) ?_
            refine lv_bipush (v := 48) X.1 X.2.1 dX7_mayStand_79 (by decide) ?_
            refine lv_iload X.1 X.2.1 dX7_mayStand_81 (lv_at hl 0 rfl) ?_
            refine lv_iadd X.1 X.2.1 dX7_mayStand_83 ?_
            refine lv_icmp_gt (tgt := 91) X.1 X.2.1 dX7_mayStand_84 (by decide) (fun c23 => ?_) (fun c23 => ?_)
            · have hf := ite_t hf c23
              refine lv_iconst (v := 0) X.1 X.2.1 dX7_mayStand_91 (by decide) ?_
              obtain rfl := z_inj1 hf
              exact z_zret X hr hlk (by decide) hP hD hS dX7_mayStand_92
            · have hf := ite_f hf c23
              refine lv_iconst (v := 1) X.1 X.2.1 dX7_mayStand_87 (by decide) ?_
              refine lv_goto (tgt := 92) X.1 X.2.1 dX7_mayStand_88 (by decide) ?_
              obtain rfl := z_inj1 hf
              exact z_zret X hr hlk (by decide) hP hD hS dX7_mayStand_92
        · have hf := ite_t hf c21
          refine lv_iload_n X.1 X.2.1 dX7_mayStand_55 rfl (lv_at hl 1 rfl) ?_
          refine lv_iconst (v := 2) X.1 X.2.1 dX7_mayStand_56 (by decide) ?_
          refine lv_icmp_ne (tgt := 65) X.1 X.2.1 dX7_mayStand_57 (by decide) (fun c24 => ?_) (fun c24 => ?_)
          · have hf := ite_f hf c24
            refine lv_bipush (v := 9) X.1 X.2.1 dX7_mayStand_65 (by decide) ?_
            refine lv_istore (lv' := [(5, .int 9), (4, .int 1), (3, .int w1), (0, .ref (aT 0)), (1, .int x1), (2, .int x2)]) X.1 X.2.1 dX7_mayStand_67 hl (by decide) rfl (fun ls hl => ?_)
            refine lv_iload_n X.1 X.2.1 dX7_mayStand_69 rfl (lv_at hl 5 rfl) ?_
            refine lv_bipush (v := 48) X.1 X.2.1 dX7_mayStand_70 (by decide) ?_
            refine lv_iload X.1 X.2.1 dX7_mayStand_72 (lv_at hl 1 rfl) ?_
            refine lv_iadd X.1 X.2.1 dX7_mayStand_74 ?_
            refine lv_icmp_lt (tgt := 91) X.1 X.2.1 dX7_mayStand_75 (by decide) (fun c25 => ?_) (fun c25 => ?_)
            · have hf := ite_t hf c25
              refine lv_iconst (v := 0) X.1 X.2.1 dX7_mayStand_91 (by decide) ?_
              obtain rfl := z_inj1 hf
              exact z_zret X hr hlk (by decide) hP hD hS dX7_mayStand_92
            · have hf := ite_f hf c25
              refine lv_iload_n X.1 X.2.1 dX7_mayStand_78 rfl (lv_at hl 5 rfl) ?_
              refine lv_bipush (v := 48) X.1 X.2.1 dX7_mayStand_79 (by decide) ?_
              refine lv_iload X.1 X.2.1 dX7_mayStand_81 (lv_at hl 0 rfl) ?_
              refine lv_iadd X.1 X.2.1 dX7_mayStand_83 ?_
              refine lv_icmp_gt (tgt := 91) X.1 X.2.1 dX7_mayStand_84 (by decide) (fun c26 => ?_) (fun c26 => ?_)
              · have hf := ite_t hf c26
                refine lv_iconst (v := 0) X.1 X.2.1 dX7_mayStand_91 (by decide) ?_
                obtain rfl := z_inj1 hf
                exact z_zret X hr hlk (by decide) hP hD hS dX7_mayStand_92
              · have hf := ite_f hf c26
                refine lv_iconst (v := 1) X.1 X.2.1 dX7_mayStand_87 (by decide) ?_
                refine lv_goto (tgt := 92) X.1 X.2.1 dX7_mayStand_88 (by decide) ?_
                obtain rfl := z_inj1 hf
                exact z_zret X hr hlk (by decide) hP hD hS dX7_mayStand_92
          · have hf := ite_t hf c24
            refine lv_bipush (v := 7) X.1 X.2.1 dX7_mayStand_60 (by decide) ?_
            refine lv_goto (tgt := 67) X.1 X.2.1 dX7_mayStand_62 (by decide) ?_
            refine lv_istore (lv' := [(5, .int 7), (4, .int 1), (3, .int w1), (0, .ref (aT 0)), (1, .int x1), (2, .int x2)]) X.1 X.2.1 dX7_mayStand_67 hl (by decide) rfl (fun ls hl => ?_)
            refine lv_iload_n X.1 X.2.1 dX7_mayStand_69 rfl (lv_at hl 5 rfl) ?_
            refine lv_bipush (v := 48) X.1 X.2.1 dX7_mayStand_70 (by decide) ?_
            refine lv_iload X.1 X.2.1 dX7_mayStand_72 (lv_at hl 1 rfl) ?_
            refine lv_iadd X.1 X.2.1 dX7_mayStand_74 ?_
            refine lv_icmp_lt (tgt := 91) X.1 X.2.1 dX7_mayStand_75 (by decide) (fun c27 => ?_) (fun c27 => ?_)
            · have hf := ite_t hf c27
              refine lv_iconst (v := 0) X.1 X.2.1 dX7_mayStand_91 (by decide) ?_
              obtain rfl := z_inj1 hf
              exact z_zret X hr hlk (by decide) hP hD hS dX7_mayStand_92
            · have hf := ite_f hf c27
              refine lv_iload_n X.1 X.2.1 dX7_mayStand_78 rfl (lv_at hl 5 rfl) ?_
              refine lv_bipush (v := 48) X.1 X.2.1 dX7_mayStand_79 (by decide) ?_
              refine lv_iload X.1 X.2.1 dX7_mayStand_81 (lv_at hl 0 rfl) ?_
              refine lv_iadd X.1 X.2.1 dX7_mayStand_83 ?_
              refine lv_icmp_gt (tgt := 91) X.1 X.2.1 dX7_mayStand_84 (by decide) (fun c28 => ?_) (fun c28 => ?_)
              · have hf := ite_t hf c28
                refine lv_iconst (v := 0) X.1 X.2.1 dX7_mayStand_91 (by decide) ?_
                obtain rfl := z_inj1 hf
                exact z_zret X hr hlk (by decide) hP hD hS dX7_mayStand_92
              · have hf := ite_f hf c28
                refine lv_iconst (v := 1) X.1 X.2.1 dX7_mayStand_87 (by decide) ?_
                refine lv_goto (tgt := 92) X.1 X.2.1 dX7_mayStand_88 (by decide) ?_
                obtain rfl := z_inj1 hf
                exact z_zret X hr hlk (by decide) hP hD hS dX7_mayStand_92
  · have hf := ite_f hf c2
    refine lv_iload_n X.1 X.2.1 dX7_mayStand_12 rfl (lv_at hl 0 rfl) ?_
    refine lv_iconst (v := 3) X.1 X.2.1 dX7_mayStand_13 (by decide) ?_
    refine lv_icmp_ne (tgt := 29) X.1 X.2.1 dX7_mayStand_14 (by decide) (fun c29 => ?_) (fun c29 => ?_)
    · have hf := ite_f hf c29
      refine lv_aload_n X.1 X.2.1 dX7_mayStand_29 rfl (lv_at hl 1 rfl) ?_
      refine z_get X hK hP hiX7 0 rfl rfl 0 (by decide) (bw_in W6_3) rfl dX7_mayStand_30 ?_
      refine lv_if_ne (tgt := 44) X.1 X.2.1 dX7_mayStand_33 (by decide) (fun c30 => ?_) (fun c30 => ?_)
      · have hf := ite_f hf c30
        refine lv_iconst (v := 0) X.1 X.2.1 dX7_mayStand_44 (by decide) ?_
        refine lv_istore (lv' := [(4, .int 0), (3, .int w1), (0, .ref (aT 0)), (1, .int x1), (2, .int x2)]) X.1 X.2.1 dX7_mayStand_45 hl (by decide) rfl (fun ls hl => ?_)
        refine lv_aload_n X.1 X.2.1 dX7_mayStand_47 rfl (lv_at hl 2 rfl) ?_
        refine z_get X hK hP hiX7 0 rfl rfl 0 (by decide) (bw_in W6_3) rfl dX7_mayStand_48 ?_
        refine lv_iconst (v := 1) X.1 X.2.1 dX7_mayStand_51 (by decide) ?_
        refine lv_icmp_ne (tgt := 65) X.1 X.2.1 dX7_mayStand_52 (by decide) (fun c31 => ?_) (fun c31 => ?_)
        · have hf := ite_f hf c31
          refine lv_bipush (v := 9) X.1 X.2.1 dX7_mayStand_65 (by decide) ?_
          refine lv_istore (lv' := [(5, .int 9), (4, .int 0), (3, .int w1), (0, .ref (aT 0)), (1, .int x1), (2, .int x2)]) X.1 X.2.1 dX7_mayStand_67 hl (by decide) rfl (fun ls hl => ?_)
          refine lv_iload_n X.1 X.2.1 dX7_mayStand_69 rfl (lv_at hl 5 rfl) ?_
          refine lv_bipush (v := 48) X.1 X.2.1 dX7_mayStand_70 (by decide) ?_
          refine lv_iload X.1 X.2.1 dX7_mayStand_72 (lv_at hl 1 rfl) ?_
          refine lv_iadd X.1 X.2.1 dX7_mayStand_74 ?_
          refine lv_icmp_lt (tgt := 91) X.1 X.2.1 dX7_mayStand_75 (by decide) (fun c32 => ?_) (fun c32 => ?_)
          · have hf := ite_t hf c32
            refine lv_iconst (v := 0) X.1 X.2.1 dX7_mayStand_91 (by decide) ?_
            obtain rfl := z_inj1 hf
            exact z_zret X hr hlk (by decide) hP hD hS dX7_mayStand_92
          · have hf := ite_f hf c32
            refine lv_iload_n X.1 X.2.1 dX7_mayStand_78 rfl (lv_at hl 5 rfl) ?_
            refine lv_bipush (v := 48) X.1 X.2.1 dX7_mayStand_79 (by decide) ?_
            refine lv_iload X.1 X.2.1 dX7_mayStand_81 (lv_at hl 0 rfl) ?_
            refine lv_iadd X.1 X.2.1 dX7_mayStand_83 ?_
            refine lv_icmp_gt (tgt := 91) X.1 X.2.1 dX7_mayStand_84 (by decide) (fun c33 => ?_) (fun c33 => ?_)
            · have hf := ite_t hf c33
              refine lv_iconst (v := 0) X.1 X.2.1 dX7_mayStand_91 (by decide) ?_
              obtain rfl := z_inj1 hf
              exact z_zret X hr hlk (by decide) hP hD hS dX7_mayStand_92
            · have hf := ite_f hf c33
              refine lv_iconst (v := 1) X.1 X.2.1 dX7_mayStand_87 (by decide) ?_
              refine lv_goto (tgt := 92) X.1 X.2.1 dX7_mayStand_88 (by decide) ?_
              obtain rfl := z_inj1 hf
              exact z_zret X hr hlk (by decide) hP hD hS dX7_mayStand_92
        · have hf := ite_t hf c31
          refine lv_iload_n X.1 X.2.1 dX7_mayStand_55 rfl (lv_at hl 1 rfl) ?_
          refine lv_iconst (v := 2) X.1 X.2.1 dX7_mayStand_56 (by decide) ?_
          refine lv_icmp_ne (tgt := 65) X.1 X.2.1 dX7_mayStand_57 (by decide) (fun c34 => ?_) (fun c34 => ?_)
          · have hf := ite_f hf c34
            refine lv_bipush (v := 9) X.1 X.2.1 dX7_mayStand_65 (by decide) ?_
            refine lv_istore (lv' := [(5, .int 9), (4, .int 0), (3, .int w1), (0, .ref (aT 0)), (1, .int x1), (2, .int x2)]) X.1 X.2.1 dX7_mayStand_67 hl (by decide) rfl (fun ls hl => ?_)
            refine lv_iload_n X.1 X.2.1 dX7_mayStand_69 rfl (lv_at hl 5 rfl) ?_
            refine lv_bipush (v := 48) X.1 X.2.1 dX7_mayStand_70 (by decide) ?_
            refine lv_iload X.1 X.2.1 dX7_mayStand_72 (lv_at hl 1 rfl) ?_
            refine lv_iadd X.1 X.2.1 dX7_mayStand_74 ?_
            refine lv_icmp_lt (tgt := 91) X.1 X.2.1 dX7_mayStand_75 (by decide) (fun c35 => ?_) (fun c35 => ?_)
            · have hf := ite_t hf c35
              refine lv_iconst (v := 0) X.1 X.2.1 dX7_mayStand_91 (by decide) ?_
              obtain rfl := z_inj1 hf
              exact z_zret X hr hlk (by decide) hP hD hS dX7_mayStand_92
            · have hf := ite_f hf c35
              refine lv_iload_n X.1 X.2.1 dX7_mayStand_78 rfl (lv_at hl 5 rfl) ?_
              refine lv_bipush (v := 48) X.1 X.2.1 dX7_mayStand_79 (by decide) ?_
              refine lv_iload X.1 X.2.1 dX7_mayStand_81 (lv_at hl 0 rfl) ?_
              refine lv_iadd X.1 X.2.1 dX7_mayStand_83 ?_
              refine lv_icmp_gt (tgt := 91) X.1 X.2.1 dX7_mayStand_84 (by decide) (fun c36 => ?_) (fun c36 => ?_)
              · have hf := ite_t hf c36
                refine lv_iconst (v := 0) X.1 X.2.1 dX7_mayStand_91 (by decide) ?_
                obtain rfl := z_inj1 hf
                exact z_zret X hr hlk (by decide) hP hD hS dX7_mayStand_92
              · have hf := ite_f hf c36
                refine lv_iconst (v := 1) X.1 X.2.1 dX7_mayStand_87 (by decide) ?_
                refine lv_goto (tgt := 92) X.1 X.2.1 dX7_mayStand_88 (by decide) ?_
                obtain rfl := z_inj1 hf
                exact z_zret X hr hlk (by decide) hP hD hS dX7_mayStand_92
          · have hf := ite_t hf c34
            refine lv_bipush (v := 7) X.1 X.2.1 dX7_mayStand_60 (by decide) ?_
            refine lv_goto (tgt := 67) X.1 X.2.1 dX7_mayStand_62 (by decide) ?_
            refine lv_istore (lv' := [(5, .int 7), (4, .int 0), (3, .int w1), (0, .ref (aT 0)), (1, .int x1), (2, .int x2)]) X.1 X.2.1 dX7_mayStand_67 hl (by decide) rfl (fun ls hl => ?_)
            refine lv_iload_n X.1 X.2.1 dX7_mayStand_69 rfl (lv_at hl 5 rfl) ?_
            refine lv_bipush (v := 48) X.1 X.2.1 dX7_mayStand_70 (by decide) ?_
            refine lv_iload X.1 X.2.1 dX7_mayStand_72 (lv_at hl 1 rfl) ?_
            refine lv_iadd X.1 X.2.1 dX7_mayStand_74 ?_
            refine lv_icmp_lt (tgt := 91) X.1 X.2.1 dX7_mayStand_75 (by decide) (fun c37 => ?_) (fun c37 => ?_)
            · have hf := ite_t hf c37
              refine lv_iconst (v := 0) X.1 X.2.1 dX7_mayStand_91 (by decide) ?_
              obtain rfl := z_inj1 hf
              exact z_zret X hr hlk (by decide) hP hD hS dX7_mayStand_92
            · have hf := ite_f hf c37
              refine lv_iload_n X.1 X.2.1 dX7_mayStand_78 rfl (lv_at hl 5 rfl) ?_
              refine lv_bipush (v := 48) X.1 X.2.1 dX7_mayStand_79 (by decide) ?_
              refine lv_iload X.1 X.2.1 dX7_mayStand_81 (lv_at hl 0 rfl) ?_
              refine lv_iadd X.1 X.2.1 dX7_mayStand_83 ?_
              refine lv_icmp_gt (tgt := 91) X.1 X.2.1 dX7_mayStand_84 (by decide) (fun c38 => ?_) (fun c38 => ?_)
              · have hf := ite_t hf c38
                refine lv_iconst (v := 0) X.1 X.2.1 dX7_mayStand_91 (by decide) ?_
                obtain rfl := z_inj1 hf
                exact z_zret X hr hlk (by decide) hP hD hS dX7_mayStand_92
              · have hf := ite_f hf c38
                refine lv_iconst (v := 1) X.1 X.2.1 dX7_mayStand_87 (by decide) ?_
                refine lv_goto (tgt := 92) X.1 X.2.1 dX7_mayStand_88 (by decide) ?_
                obtain rfl := z_inj1 hf
                exact z_zret X hr hlk (by decide) hP hD hS dX7_mayStand_92
      · have hf := ite_t hf c30
        refine lv_iload_n X.1 X.2.1 dX7_mayStand_36 rfl (lv_at hl 0 rfl) ?_
        refine lv_if_ne (tgt := 44) X.1 X.2.1 dX7_mayStand_37 (by decide) (fun c39 => ?_) (fun c39 => ?_)
        · have hf := ite_f hf c39
          refine lv_iconst (v := 0) X.1 X.2.1 dX7_mayStand_44 (by decide) ?_
          refine lv_istore (lv' := [(4, .int 0), (3, .int w1), (0, .ref (aT 0)), (1, .int x1), (2, .int x2)]) X.1 X.2.1 dX7_mayStand_45 hl (by decide) rfl (fun ls hl => ?_)
          refine lv_aload_n X.1 X.2.1 dX7_mayStand_47 rfl (lv_at hl 2 rfl) ?_
          refine z_get X hK hP hiX7 0 rfl rfl 0 (by decide) (bw_in W6_3) rfl dX7_mayStand_48 ?_
          refine lv_iconst (v := 1) X.1 X.2.1 dX7_mayStand_51 (by decide) ?_
          refine lv_icmp_ne (tgt := 65) X.1 X.2.1 dX7_mayStand_52 (by decide) (fun c40 => ?_) (fun c40 => ?_)
          · have hf := ite_f hf c40
            refine lv_bipush (v := 9) X.1 X.2.1 dX7_mayStand_65 (by decide) ?_
            refine lv_istore (lv' := [(5, .int 9), (4, .int 0), (3, .int w1), (0, .ref (aT 0)), (1, .int x1), (2, .int x2)]) X.1 X.2.1 dX7_mayStand_67 hl (by decide) rfl (fun ls hl => ?_)
            refine lv_iload_n X.1 X.2.1 dX7_mayStand_69 rfl (lv_at hl 5 rfl) ?_
            refine lv_bipush (v := 48) X.1 X.2.1 dX7_mayStand_70 (by decide) ?_
            refine lv_iload X.1 X.2.1 dX7_mayStand_72 (lv_at hl 1 rfl) ?_
            refine lv_iadd X.1 X.2.1 dX7_mayStand_74 ?_
            refine lv_icmp_lt (tgt := 91) X.1 X.2.1 dX7_mayStand_75 (by decide) (fun c41 => ?_) (fun c41 => ?_)
            · have hf := ite_t hf c41
              refine lv_iconst (v := 0) X.1 X.2.1 dX7_mayStand_91 (by decide) ?_
              obtain rfl := z_inj1 hf
              exact z_zret X hr hlk (by decide) hP hD hS dX7_mayStand_92
            · have hf := ite_f hf c41
              refine lv_iload_n X.1 X.2.1 dX7_mayStand_78 rfl (lv_at hl 5 rfl) ?_
              refine lv_bipush (v := 48) X.1 X.2.1 dX7_mayStand_79 (by decide) ?_
              refine lv_iload X.1 X.2.1 dX7_mayStand_81 (lv_at hl 0 rfl) ?_
              refine lv_iadd X.1 X.2.1 dX7_mayStand_83 ?_
              refine lv_icmp_gt (tgt := 91) X.1 X.2.1 dX7_mayStand_84 (by decide) (fun c42 => ?_) (fun c42 => ?_)
              · have hf := ite_t hf c42
                refine lv_iconst (v := 0) X.1 X.2.1 dX7_mayStand_91 (by decide) ?_
                obtain rfl := z_inj1 hf
                exact z_zret X hr hlk (by decide) hP hD hS dX7_mayStand_92
              · have hf := ite_f hf c42
                refine lv_iconst (v := 1) X.1 X.2.1 dX7_mayStand_87 (by decide) ?_
                refine lv_goto (tgt := 92) X.1 X.2.1 dX7_mayStand_88 (by decide) ?_
                obtain rfl := z_inj1 hf
                exact z_zret X hr hlk (by decide) hP hD hS dX7_mayStand_92
          · have hf := ite_t hf c40
            refine lv_iload_n X.1 X.2.1 dX7_mayStand_55 rfl (lv_at hl 1 rfl) ?_
            refine lv_iconst (v := 2) X.1 X.2.1 dX7_mayStand_56 (by decide) ?_
            refine lv_icmp_ne (tgt := 65) X.1 X.2.1 dX7_mayStand_57 (by decide) (fun c43 => ?_) (fun c43 => ?_)
            · have hf := ite_f hf c43
              refine lv_bipush (v := 9) X.1 X.2.1 dX7_mayStand_65 (by decide) ?_
              refine lv_istore (lv' := [(5, .int 9), (4, .int 0), (3, .int w1), (0, .ref (aT 0)), (1, .int x1), (2, .int x2)]) X.1 X.2.1 dX7_mayStand_67 hl (by decide) rfl (fun ls hl => ?_)
              refine lv_iload_n X.1 X.2.1 dX7_mayStand_69 rfl (lv_at hl 5 rfl) ?_
              refine lv_bipush (v := 48) X.1 X.2.1 dX7_mayStand_70 (by decide) ?_
              refine lv_iload X.1 X.2.1 dX7_mayStand_72 (lv_at hl 1 rfl) ?_
              refine lv_iadd X.1 X.2.1 dX7_mayStand_74 ?_
              refine lv_icmp_lt (tgt := 91) X.1 X.2.1 dX7_mayStand_75 (by decide) (fun c44 => ?_) (fun c44 => ?_)
              · have hf := ite_t hf c44
                refine lv_iconst (v := 0) X.1 X.2.1 dX7_mayStand_91 (by decide) ?_
                obtain rfl := z_inj1 hf
                exact z_zret X hr hlk (by decide) hP hD hS dX7_mayStand_92
              · have hf := ite_f hf c44
                refine lv_iload_n X.1 X.2.1 dX7_mayStand_78 rfl (lv_at hl 5 rfl) ?_
                refine lv_bipush (v := 48) X.1 X.2.1 dX7_mayStand_79 (by decide) ?_
                refine lv_iload X.1 X.2.1 dX7_mayStand_81 (lv_at hl 0 rfl) ?_
                refine lv_iadd X.1 X.2.1 dX7_mayStand_83 ?_
                refine lv_icmp_gt (tgt := 91) X.1 X.2.1 dX7_mayStand_84 (by decide) (fun c45 => ?_) (fun c45 => ?_)
                · have hf := ite_t hf c45
                  refine lv_iconst (v := 0) X.1 X.2.1 dX7_mayStand_91 (by decide) ?_
                  obtain rfl := z_inj1 hf
                  exact z_zret X hr hlk (by decide) hP hD hS dX7_mayStand_92
                · have hf := ite_f hf c45
                  refine lv_iconst (v := 1) X.1 X.2.1 dX7_mayStand_87 (by decide) ?_
                  refine lv_goto (tgt := 92) X.1 X.2.1 dX7_mayStand_88 (by decide) ?_
                  obtain rfl := z_inj1 hf
                  exact z_zret X hr hlk (by decide) hP hD hS dX7_mayStand_92
            · have hf := ite_t hf c43
              refine lv_bipush (v := 7) X.1 X.2.1 dX7_mayStand_60 (by decide) ?_
              refine lv_goto (tgt := 67) X.1 X.2.1 dX7_mayStand_62 (by decide) ?_
              refine lv_istore (lv' := [(5, .int 7), (4, .int 0), (3, .int w1), (0, .ref (aT 0)), (1, .int x1), (2, .int x2)]) X.1 X.2.1 dX7_mayStand_67 hl (by decide) rfl (fun ls hl => ?_)
              refine lv_iload_n X.1 X.2.1 dX7_mayStand_69 rfl (lv_at hl 5 rfl) ?_
              refine lv_bipush (v := 48) X.1 X.2.1 dX7_mayStand_70 (by decide) ?_
              refine lv_iload X.1 X.2.1 dX7_mayStand_72 (lv_at hl 1 rfl) ?_
              refine lv_iadd X.1 X.2.1 dX7_mayStand_74 ?_
              refine lv_icmp_lt (tgt := 91) X.1 X.2.1 dX7_mayStand_75 (by decide) (fun c46 => ?_) (fun c46 => ?_)
              · have hf := ite_t hf c46
                refine lv_iconst (v := 0) X.1 X.2.1 dX7_mayStand_91 (by decide) ?_
                obtain rfl := z_inj1 hf
                exact z_zret X hr hlk (by decide) hP hD hS dX7_mayStand_92
              · have hf := ite_f hf c46
                refine lv_iload_n X.1 X.2.1 dX7_mayStand_78 rfl (lv_at hl 5 rfl) ?_
                refine lv_bipush (v := 48) X.1 X.2.1 dX7_mayStand_79 (by decide) ?_
                refine lv_iload X.1 X.2.1 dX7_mayStand_81 (lv_at hl 0 rfl) ?_
                refine lv_iadd X.1 X.2.1 dX7_mayStand_83 ?_
                refine lv_icmp_gt (tgt := 91) X.1 X.2.1 dX7_mayStand_84 (by decide) (fun c47 => ?_) (fun c47 => ?_)
                · have hf := ite_t hf c47
                  refine lv_iconst (v := 0) X.1 X.2.1 dX7_mayStand_91 (by decide) ?_
                  obtain rfl := z_inj1 hf
                  exact z_zret X hr hlk (by decide) hP hD hS dX7_mayStand_92
                · have hf := ite_f hf c47
                  refine lv_iconst (v := 1) X.1 X.2.1 dX7_mayStand_87 (by decide) ?_
                  refine lv_goto (tgt := 92) X.1 X.2.1 dX7_mayStand_88 (by decide) ?_
                  obtain rfl := z_inj1 hf
                  exact z_zret X hr hlk (by decide) hP hD hS dX7_mayStand_92
        · have hf := ite_t hf c39
          refine lv_iconst (v := 1) X.1 X.2.1 dX7_mayStand_40 (by decide) ?_
          refine lv_goto (tgt := 45) X.1 X.2.1 dX7_mayStand_41 (by decide) ?_
          refine lv_istore (lv' := [(4, .int 1), (3, .int w1), (0, .ref (aT 0)), (1, .int x1), (2, .int x2)]) X.1 X.2.1 dX7_mayStand_45 hl (by decide) rfl (fun ls hl => ?_)
          refine lv_aload_n X.1 X.2.1 dX7_mayStand_47 rfl (lv_at hl 2 rfl) ?_
          refine z_get X hK hP hiX7 0 rfl rfl 0 (by decide) (bw_in W6_3) rfl dX7_mayStand_48 ?_
          refine lv_iconst (v := 1) X.1 X.2.1 dX7_mayStand_51 (by decide) ?_
          refine lv_icmp_ne (tgt := 65) X.1 X.2.1 dX7_mayStand_52 (by decide) (fun c48 => ?_) (fun c48 => ?_)
          · have hf := ite_f hf c48
            refine lv_bipush (v := 9) X.1 X.2.1 dX7_mayStand_65 (by decide) ?_
            refine lv_istore (lv' := [(5, .int 9), (4, .int 1), (3, .int w1), (0, .ref (aT 0)), (1, .int x1), (2, .int x2)]) X.1 X.2.1 dX7_mayStand_67 hl (by decide) rfl (fun ls hl => ?_)
            refine lv_iload_n X.1 X.2.1 dX7_mayStand_69 rfl (lv_at hl 5 rfl) ?_
            refine lv_bipush (v := 48) X.1 X.2.1 dX7_mayStand_70 (by decide) ?_
            refine lv_iload X.1 X.2.1 dX7_mayStand_72 (lv_at hl 1 rfl) ?_
            refine lv_iadd X.1 X.2.1 dX7_mayStand_74 ?_
            refine lv_icmp_lt (tgt := 91) X.1 X.2.1 dX7_mayStand_75 (by decide) (fun c49 => ?_) (fun c49 => ?_)
            · have hf := ite_t hf c49
              refine lv_iconst (v := 0) X.1 X.2.1 dX7_mayStand_91 (by decide) ?_
              obtain rfl := z_inj1 hf
              exact z_zret X hr hlk (by decide) hP hD hS dX7_mayStand_92
            · have hf := ite_f hf c49
              refine lv_iload_n X.1 X.2.1 dX7_mayStand_78 rfl (lv_at hl 5 rfl) ?_
              refine lv_bipush (v := 48) X.1 X.2.1 dX7_mayStand_79 (by decide) ?_
              refine lv_iload X.1 X.2.1 dX7_mayStand_81 (lv_at hl 0 rfl) ?_
              refine lv_iadd X.1 X.2.1 dX7_mayStand_83 ?_
              refine lv_icmp_gt (tgt := 91) X.1 X.2.1 dX7_mayStand_84 (by decide) (fun c50 => ?_) (fun c50 => ?_)
              · have hf := ite_t hf c50
                refine lv_iconst (v := 0) X.1 X.2.1 dX7_mayStand_91 (by decide) ?_
                obtain rfl := z_inj1 hf
                exact z_zret X hr hlk (by decide) hP hD hS dX7_mayStand_92
              · have hf := ite_f hf c50
                refine lv_iconst (v := 1) X.1 X.2.1 dX7_mayStand_87 (by decide) ?_
                refine lv_goto (tgt := 92) X.1 X.2.1 dX7_mayStand_88 (by decide) ?_
                obtain rfl := z_inj1 hf
                exact z_zret X hr hlk (by decide) hP hD hS dX7_mayStand_92
          · have hf := ite_t hf c48
            refine lv_iload_n X.1 X.2.1 dX7_mayStand_55 rfl (lv_at hl 1 rfl) ?_
            refine lv_iconst (v := 2) X.1 X.2.1 dX7_mayStand_56 (by decide) ?_
            refine lv_icmp_ne (tgt := 65) X.1 X.2.1 dX7_mayStand_57 (by decide) (fun c51 => ?_) (fun c51 => ?_)
            · have hf := ite_f hf c51
              refine lv_bipush (v := 9) X.1 X.2.1 dX7_mayStand_65 (by decide) ?_
              refine lv_istore (lv' := [(5, .int 9), (4, .int 1), (3, .int w1), (0, .ref (aT 0)), (1, .int x1), (2, .int x2)]) X.1 X.2.1 dX7_mayStand_67 hl (by decide) rfl (fun ls hl => ?_)
              refine lv_iload_n X.1 X.2.1 dX7_mayStand_69 rfl (lv_at hl 5 rfl) ?_
              refine lv_bipush (v := 48) X.1 X.2.1 dX7_mayStand_70 (by decide) ?_
              refine lv_iload X.1 X.2.1 dX7_mayStand_72 (lv_at hl 1 rfl) ?_
              refine lv_iadd X.1 X.2.1 dX7_mayStand_74 ?_
              refine lv_icmp_lt (tgt := 91) X.1 X.2.1 dX7_mayStand_75 (by decide) (fun c52 => ?_) (fun c52 => ?_)
              · have hf := ite_t hf c52
                refine lv_iconst (v := 0) X.1 X.2.1 dX7_mayStand_91 (by decide) ?_
                obtain rfl := z_inj1 hf
                exact z_zret X hr hlk (by decide) hP hD hS dX7_mayStand_92
              · have hf := ite_f hf c52
                refine lv_iload_n X.1 X.2.1 dX7_mayStand_78 rfl (lv_at hl 5 rfl) ?_
                refine lv_bipush (v := 48) X.1 X.2.1 dX7_mayStand_79 (by decide) ?_
                refine lv_iload X.1 X.2.1 dX7_mayStand_81 (lv_at hl 0 rfl) ?_
                refine lv_iadd X.1 X.2.1 dX7_mayStand_83 ?_
                refine lv_icmp_gt (tgt := 91) X.1 X.2.1 dX7_mayStand_84 (by decide) (fun c53 => ?_) (fun c53 => ?_)
                · have hf := ite_t hf c53
                  refine lv_iconst (v := 0) X.1 X.2.1 dX7_mayStand_91 (by decide) ?_
                  obtain rfl := z_inj1 hf
                  exact z_zret X hr hlk (by decide) hP hD hS dX7_mayStand_92
                · have hf := ite_f hf c53
                  refine lv_iconst (v := 1) X.1 X.2.1 dX7_mayStand_87 (by decide) ?_
                  refine lv_goto (tgt := 92) X.1 X.2.1 dX7_mayStand_88 (by decide) ?_
                  obtain rfl := z_inj1 hf
                  exact z_zret X hr hlk (by decide) hP hD hS dX7_mayStand_92
            · have hf := ite_t hf c51
              refine lv_bipush (v := 7) X.1 X.2.1 dX7_mayStand_60 (by decide) ?_
              refine lv_goto (tgt := 67) X.1 X.2.1 dX7_mayStand_62 (by decide) ?_
              refine lv_istore (lv' := [(5, .int 7), (4, .int 1), (3, .int w1), (0, .ref (aT 0)), (1, .int x1), (2, .int x2)]) X.1 X.2.1 dX7_mayStand_67 hl (by decide) rfl (fun ls hl => ?_)
              refine lv_iload_n X.1 X.2.1 dX7_mayStand_69 rfl (lv_at hl 5 rfl) ?_
              refine lv_bipush (v := 48) X.1 X.2.1 dX7_mayStand_70 (by decide) ?_
              refine lv_iload X.1 X.2.1 dX7_mayStand_72 (lv_at hl 1 rfl) ?_
              refine lv_iadd X.1 X.2.1 dX7_mayStand_74 ?_
              refine lv_icmp_lt (tgt := 91) X.1 X.2.1 dX7_mayStand_75 (by decide) (fun c54 => ?_) (fun c54 => ?_)
              · have hf := ite_t hf c54
                refine lv_iconst (v := 0) X.1 X.2.1 dX7_mayStand_91 (by decide) ?_
                obtain rfl := z_inj1 hf
                exact z_zret X hr hlk (by decide) hP hD hS dX7_mayStand_92
              · have hf := ite_f hf c54
                refine lv_iload_n X.1 X.2.1 dX7_mayStand_78 rfl (lv_at hl 5 rfl) ?_
                refine lv_bipush (v := 48) X.1 X.2.1 dX7_mayStand_79 (by decide) ?_
                refine lv_iload X.1 X.2.1 dX7_mayStand_81 (lv_at hl 0 rfl) ?_
                refine lv_iadd X.1 X.2.1 dX7_mayStand_83 ?_
                refine lv_icmp_gt (tgt := 91) X.1 X.2.1 dX7_mayStand_84 (by decide) (fun c55 => ?_) (fun c55 => ?_)
                · have hf := ite_t hf c55
                  refine lv_iconst (v := 0) X.1 X.2.1 dX7_mayStand_91 (by decide) ?_
                  obtain rfl := z_inj1 hf
                  exact z_zret X hr hlk (by decide) hP hD hS dX7_mayStand_92
                · have hf := ite_f hf c55
                  refine lv_iconst (v := 1) X.1 X.2.1 dX7_mayStand_87 (by decide) ?_
                  refine lv_goto (tgt := 92) X.1 X.2.1 dX7_mayStand_88 (by decide) ?_
                  obtain rfl := z_inj1 hf
                  exact z_zret X hr hlk (by decide) hP hD hS dX7_mayStand_92
    · have hf := ite_t hf c29
      refine lv_iload_n X.1 X.2.1 dX7_mayStand_17 rfl (lv_at hl 3 rfl) ?_
      refine lv_bipush (v := 59) X.1 X.2.1 dX7_mayStand_18 (by decide) ?_
      refine lv_icmp_ne (tgt := 27) X.1 X.2.1 dX7_mayStand_20 (by decide) (fun c56 => ?_) (fun c56 => ?_)
      · have hf := ite_f hf c56
        refine lv_iconst (v := 0) X.1 X.2.1 dX7_mayStand_27 (by decide) ?_
        obtain rfl := z_inj1 hf
        exact z_zret X hr hlk (by decide) hP hD hS dX7_mayStand_28
      · have hf := ite_t hf c56
        refine lv_iconst (v := 1) X.1 X.2.1 dX7_mayStand_23 (by decide) ?_
        refine lv_goto (tgt := 28) X.1 X.2.1 dX7_mayStand_24 (by decide) ?_
        obtain rfl := z_inj1 hf
        exact z_zret X hr hlk (by decide) hP hD hS dX7_mayStand_28
abbrev rmX7_firstFault : Room := { frames := 1, cells := 0, slots := 0, locals := 25 }
set_option maxHeartbeats 4000000 in
set_option maxRecDepth 100000 in
theorem kX7_firstFault (l : Launch) (D : va_G) (K : Nat → ClassId) (aT : Nat → Nat) (t0 : St) (sz : Nat)  (q_ : Int32) (hf : fX7_firstFault t0 = some q_) : Met l yX7_firstFault (bw (Cond.code yX7_firstFault cX7_firstFault 2 (some .int))) rmX7_firstFault (va_Pc [.ref (aT 0)] (zB D K sz (wbX7 K aT t0))) (zQ (some (.int q_)) D (va_A (wbX7 K aT t0) sz) (wbX7 K aT t0)) 0 0 (va_A (wbX7 K aT t0) sz) := by
  refine z_of (cc := cX7_firstFault) (maxL := 2) (ret := (some .int)) (own := RX7) (lv := [(0, .ref (aT 0))]) (by decide) rfl rfl (Nat.le_of_ble_eq_true rfl) rfl ?_
  intro p e s m below meth c X hr hlk hK hN hsz hP hD hA hS hin ls hl
  generalize va_A (wbX7 K aT t0) sz = A at hD hA hS hN ⊢
  have hiX7 : ∀ w ∈ u_ws RX7 TX7 4, w ∈ (bw (Cond.code yX7_firstFault cX7_firstFault 2 (some .int))) := fun w h => bw_in (inlX7 w h)
  have L2_0 : ∀ (n : Nat), ∀ (n2_0 : Int32) , fX7_firstFault_2 t0 n n2_0 = some q_ → ∀ (H : Heap) (locs : List Loc), va_P D vwCl (wbX7 K aT t0) H → va_D A (wbX7 K aT t0) → va_S A s.heap H locs → ∀ (ls : Array Slot), lv_has ls 2 [(0, .ref (aT 0)), (1, .int n2_0)] → W p l e rmX7_firstFault s m ([.ref (aT 0)] : List Value).toArray below meth c H locs 0 0 (MQ below (zQ (some (.int q_)) D A (wbX7 K aT t0)) ([.ref (aT 0)] : List Value).toArray s 0 0 A) (F0 m 2 ls []) := by
    intro n
    induction n with
    | zero =>
      intro n2_0  hf
      rw [fX7_firstFault_2] at hf
      cases hf
    | succ n ih =>
      intro n2_0  hf H locs hP hD hS ls hl
      rw [fX7_firstFault_2] at hf
      refine lv_iload_n X.1 X.2.1 dX7_firstFault_2 rfl (lv_at hl 1 rfl) ?_
      refine lv_aload_n X.1 X.2.1 dX7_firstFault_3 rfl (lv_at hl 0 rfl) ?_
      refine z_get X hK hP hiX7 0 rfl rfl 3 (by decide) (bw_in W6_2) rfl dX7_firstFault_4 ?_
      refine lv_icmp_ge (tgt := 41) X.1 X.2.1 dX7_firstFault_7 (by decide) (fun c1 => ?_) (fun c1 => ?_)
      · have hf := ite_t hf c1
        refine lv_aload_n X.1 X.2.1 dX7_firstFault_41 rfl (lv_at hl 0 rfl) ?_
        refine z_get X hK hP hiX7 0 rfl rfl 0 (by decide) (bw_in W6_3) rfl dX7_firstFault_42 ?_
        refine lv_iconst (v := 2) X.1 X.2.1 dX7_firstFault_45 (by decide) ?_
        refine lv_icmp_eq (tgt := 66) X.1 X.2.1 dX7_firstFault_46 (by decide) (fun c2 => ?_) (fun c2 => ?_)
        · have hf := ite_t hf c2
          refine lv_iconst (v := 1) X.1 X.2.1 dX7_firstFault_66 (by decide) ?_
          refine lv_goto (tgt := 71) X.1 X.2.1 dX7_firstFault_67 (by decide) ?_
          refine lv_istore_n (lv' := [(1, .int 1), (0, .ref (aT 0))]) X.1 X.2.1 dX7_firstFault_71 rfl hl (by decide) rfl (fun ls hl => ?_)
          refine lv_iload_n X.1 X.2.1 dX7_firstFault_72 rfl (lv_at hl 0 rfl) ?_
          refine lv_if_eq (tgt := 80) X.1 X.2.1 dX7_firstFault_73 (by decide) (fun c => absurd c (by decide)) (fun _ => ?_)
          refine lv_iconst (v := -1) X.1 X.2.1 dX7_firstFault_76 (by decide) ?_
          refine lv_goto (tgt := 84) X.1 X.2.1 dX7_firstFault_77 (by decide) ?_
          obtain rfl := z_inj1 hf
          exact z_iret X hr hlk hP hD hS dX7_firstFault_84
        · have hf := ite_f hf c2
          refine lv_aload_n X.1 X.2.1 dX7_firstFault_49 rfl (lv_at hl 0 rfl) ?_
          refine z_get X hK hP hiX7 0 rfl rfl 3 (by decide) (bw_in W6_2) rfl dX7_firstFault_50 ?_
          refine lv_if_eq (tgt := 66) X.1 X.2.1 dX7_firstFault_53 (by decide) (fun c3 => ?_) (fun c3 => ?_)
          · have hf := ite_t hf c3
            refine lv_iconst (v := 1) X.1 X.2.1 dX7_firstFault_66 (by decide) ?_
            refine lv_goto (tgt := 71) X.1 X.2.1 dX7_firstFault_67 (by decide) ?_
            refine lv_istore_n (lv' := [(1, .int 1), (0, .ref (aT 0))]) X.1 X.2.1 dX7_firstFault_71 rfl hl (by decide) rfl (fun ls hl => ?_)
            refine lv_iload_n X.1 X.2.1 dX7_firstFault_72 rfl (lv_at hl 0 rfl) ?_
            refine lv_if_eq (tgt := 80) X.1 X.2.1 dX7_firstFault_73 (by decide) (fun c => absurd c (by decide)) (fun _ => ?_)
            refine lv_iconst (v := -1) X.1 X.2.1 dX7_firstFault_76 (by decide) ?_
            refine lv_goto (tgt := 84) X.1 X.2.1 dX7_firstFault_77 (by decide) ?_
            obtain rfl := z_inj1 hf
            exact z_iret X hr hlk hP hD hS dX7_firstFault_84
          · have hf := ite_f hf c3
            refine lv_aload_n X.1 X.2.1 dX7_firstFault_56 rfl (lv_at hl 0 rfl) ?_
            refine z_get X hK hP hiX7 0 rfl rfl 3 (by decide) (bw_in W6_2) rfl dX7_firstFault_57 ?_
            refine lv_iconst (v := 4) X.1 X.2.1 dX7_firstFault_60 (by decide) ?_
            refine lv_irem X.1 X.2.1 dX7_firstFault_61 (by decide) ?_
            refine lv_iconst (v := 3) X.1 X.2.1 dX7_firstFault_62 (by decide) ?_
            refine lv_icmp_ne (tgt := 70) X.1 X.2.1 dX7_firstFault_63 (by decide) (fun c4 => ?_) (fun c4 => ?_)
            · have hf := ite_f hf c4
              refine lv_iconst (v := 0) X.1 X.2.1 dX7_firstFault_70 (by decide) ?_
              refine lv_istore_n (lv' := [(1, .int 0), (0, .ref (aT 0))]) X.1 X.2.1 dX7_firstFault_71 rfl hl (by decide) rfl (fun ls hl => ?_)
              refine lv_iload_n X.1 X.2.1 dX7_firstFault_72 rfl (lv_at hl 0 rfl) ?_
              refine lv_if_eq (tgt := 80) X.1 X.2.1 dX7_firstFault_73 (by decide) (fun _ => ?_) (fun c => absurd c (by decide))
              refine lv_aload_n X.1 X.2.1 dX7_firstFault_80 rfl (lv_at hl 1 rfl) ?_
              refine z_get X hK hP hiX7 0 rfl rfl 3 (by decide) (bw_in W6_2) rfl dX7_firstFault_81 ?_
              obtain rfl := z_inj1 hf
              exact z_iret X hr hlk hP hD hS dX7_firstFault_84
            · have hf := ite_t hf c4
              refine lv_iconst (v := 1) X.1 X.2.1 dX7_firstFault_66 (by decide) ?_
              refine lv_goto (tgt := 71) X.1 X.2.1 dX7_firstFault_67 (by decide) ?_
              refine lv_istore_n (lv' := [(1, .int 1), (0, .ref (aT 0))]) X.1 X.2.1 dX7_firstFault_71 rfl hl (by decide) rfl (fun ls hl => ?_)
              refine lv_iload_n X.1 X.2.1 dX7_firstFault_72 rfl (lv_at hl 0 rfl) ?_
              refine lv_if_eq (tgt := 80) X.1 X.2.1 dX7_firstFault_73 (by decide) (fun c => absurd c (by decide)) (fun _ => ?_)
              refine lv_iconst (v := -1) X.1 X.2.1 dX7_firstFault_76 (by decide) ?_
              refine lv_goto (tgt := 84) X.1 X.2.1 dX7_firstFault_77 (by decide) ?_
              obtain rfl := z_inj1 hf
              exact z_iret X hr hlk hP hD hS dX7_firstFault_84
      · have hf := ite_f hf c1
        refine lv_iload_n X.1 X.2.1 dX7_firstFault_10 rfl (lv_at hl 1 rfl) ?_
        refine lv_aload_n X.1 X.2.1 dX7_firstFault_11 rfl (lv_at hl 0 rfl) ?_
        refine z_get X hK hP hiX7 0 rfl rfl 2 (by decide) (bw_in W6_1) rfl dX7_firstFault_12 ?_
        refine z_alen (v := 31) X hK hP 1 0 rfl rfl rfl dX7_firstFault_15 ?_
        refine lv_icmp_ge (tgt := 41) X.1 X.2.1 dX7_firstFault_16 (by decide) (fun c5 => ?_) (fun c5 => ?_)
        · have hf := ite_t hf c5
          refine lv_aload_n X.1 X.2.1 dX7_firstFault_41 rfl (lv_at hl 0 rfl) ?_
          refine z_get X hK hP hiX7 0 rfl rfl 0 (by decide) (bw_in W6_3) rfl dX7_firstFault_42 ?_
          refine lv_iconst (v := 2) X.1 X.2.1 dX7_firstFault_45 (by decide) ?_
          refine lv_icmp_eq (tgt := 66) X.1 X.2.1 dX7_firstFault_46 (by decide) (fun c6 => ?_) (fun c6 => ?_)
          · have hf := ite_t hf c6
            refine lv_iconst (v := 1) X.1 X.2.1 dX7_firstFault_66 (by decide) ?_
            refine lv_goto (tgt := 71) X.1 X.2.1 dX7_firstFault_67 (by decide) ?_
            refine lv_istore_n (lv' := [(1, .int 1), (0, .ref (aT 0))]) X.1 X.2.1 dX7_firstFault_71 rfl hl (by decide) rfl (fun ls hl => ?_)
            refine lv_iload_n X.1 X.2.1 dX7_firstFault_72 rfl (lv_at hl 0 rfl) ?_
            refine lv_if_eq (tgt := 80) X.1 X.2.1 dX7_firstFault_73 (by decide) (fun c => absurd c (by decide)) (fun _ => ?_)
            refine lv_iconst (v := -1) X.1 X.2.1 dX7_firstFault_76 (by decide) ?_
            refine lv_goto (tgt := 84) X.1 X.2.1 dX7_firstFault_77 (by decide) ?_
            obtain rfl := z_inj1 hf
            exact z_iret X hr hlk hP hD hS dX7_firstFault_84
          · have hf := ite_f hf c6
            refine lv_aload_n X.1 X.2.1 dX7_firstFault_49 rfl (lv_at hl 0 rfl) ?_
            refine z_get X hK hP hiX7 0 rfl rfl 3 (by decide) (bw_in W6_2) rfl dX7_firstFault_50 ?_
            refine lv_if_eq (tgt := 66) X.1 X.2.1 dX7_firstFault_53 (by decide) (fun c7 => ?_) (fun c7 => ?_)
            · have hf := ite_t hf c7
              refine lv_iconst (v := 1) X.1 X.2.1 dX7_firstFault_66 (by decide) ?_
              refine lv_goto (tgt := 71) X.1 X.2.1 dX7_firstFault_67 (by decide) ?_
              refine lv_istore_n (lv' := [(1, .int 1), (0, .ref (aT 0))]) X.1 X.2.1 dX7_firstFault_71 rfl hl (by decide) rfl (fun ls hl => ?_)
              refine lv_iload_n X.1 X.2.1 dX7_firstFault_72 rfl (lv_at hl 0 rfl) ?_
              refine lv_if_eq (tgt := 80) X.1 X.2.1 dX7_firstFault_73 (by decide) (fun c => absurd c (by decide)) (fun _ => ?_)
              refine lv_iconst (v := -1) X.1 X.2.1 dX7_firstFault_76 (by decide) ?_
              refine lv_goto (tgt := 84) X.1 X.2.1 dX7_firstFault_77 (by decide) ?_
              obtain rfl := z_inj1 hf
              exact z_iret X hr hlk hP hD hS dX7_firstFault_84
            · have hf := ite_f hf c7
              refine lv_aload_n X.1 X.2.1 dX7_firstFault_56 rfl (lv_at hl 0 rfl) ?_
              refine z_get X hK hP hiX7 0 rfl rfl 3 (by decide) (bw_in W6_2) rfl dX7_firstFault_57 ?_
              refine lv_iconst (v := 4) X.1 X.2.1 dX7_firstFault_60 (by decide) ?_
              refine lv_irem X.1 X.2.1 dX7_firstFault_61 (by decide) ?_
              refine lv_iconst (v := 3) X.1 X.2.1 dX7_firstFault_62 (by decide) ?_
              refine lv_icmp_ne (tgt := 70) X.1 X.2.1 dX7_firstFault_63 (by decide) (fun c8 => ?_) (fun c8 => ?_)
              · have hf := ite_f hf c8
                refine lv_iconst (v := 0) X.1 X.2.1 dX7_firstFault_70 (by decide) ?_
                refine lv_istore_n (lv' := [(1, .int 0), (0, .ref (aT 0))]) X.1 X.2.1 dX7_firstFault_71 rfl hl (by decide) rfl (fun ls hl => ?_)
                refine lv_iload_n X.1 X.2.1 dX7_firstFault_72 rfl (lv_at hl 0 rfl) ?_
                refine lv_if_eq (tgt := 80) X.1 X.2.1 dX7_firstFault_73 (by decide) (fun _ => ?_) (fun c => absurd c (by decide))
                refine lv_aload_n X.1 X.2.1 dX7_firstFault_80 rfl (lv_at hl 1 rfl) ?_
                refine z_get X hK hP hiX7 0 rfl rfl 3 (by decide) (bw_in W6_2) rfl dX7_firstFault_81 ?_
                obtain rfl := z_inj1 hf
                exact z_iret X hr hlk hP hD hS dX7_firstFault_84
              · have hf := ite_t hf c8
                refine lv_iconst (v := 1) X.1 X.2.1 dX7_firstFault_66 (by decide) ?_
                refine lv_goto (tgt := 71) X.1 X.2.1 dX7_firstFault_67 (by decide) ?_
                refine lv_istore_n (lv' := [(1, .int 1), (0, .ref (aT 0))]) X.1 X.2.1 dX7_firstFault_71 rfl hl (by decide) rfl (fun ls hl => ?_)
                refine lv_iload_n X.1 X.2.1 dX7_firstFault_72 rfl (lv_at hl 0 rfl) ?_
                refine lv_if_eq (tgt := 80) X.1 X.2.1 dX7_firstFault_73 (by decide) (fun c => absurd c (by decide)) (fun _ => ?_)
                refine lv_iconst (v := -1) X.1 X.2.1 dX7_firstFault_76 (by decide) ?_
                refine lv_goto (tgt := 84) X.1 X.2.1 dX7_firstFault_77 (by decide) ?_
                obtain rfl := z_inj1 hf
                exact z_iret X hr hlk hP hD hS dX7_firstFault_84
        · have hf := ite_f hf c5
          refine lv_aload_n X.1 X.2.1 dX7_firstFault_19 rfl (lv_at hl 0 rfl) ?_
          refine lv_iload_n X.1 X.2.1 dX7_firstFault_20 rfl (lv_at hl 1 rfl) ?_
          refine lv_aload_n X.1 X.2.1 dX7_firstFault_21 rfl (lv_at hl 0 rfl) ?_
          refine z_get X hK hP hiX7 0 rfl rfl 2 (by decide) (bw_in W6_1) rfl dX7_firstFault_22 ?_
          refine lv_iload_n X.1 X.2.1 dX7_firstFault_25 rfl (lv_at hl 1 rfl) ?_
          obtain ⟨hi10, hf⟩ := chk_e hf
          obtain ⟨v9, ev9, hf⟩ := stp_e hf
          refine z_iald X hK hP 1 rfl hi10 ev9 dX7_firstFault_26 ?_
          obtain ⟨r11, hc12, hf⟩ := bd1_e hf
          refine z_V (n := 2) (As := [.int n2_0, .int v9]) (rest := []) (ci := 7) (q0 := 0) X hK hN (kX7_mayStand l D K aT t0 _ n2_0 v9 r11 hc12) (bw_V W9_20 W9_21 W9_22 W2_20 W9_23) rfl ⟨rfl, rfl⟩ (by decide +kernel) rfl ⟨Nat.le_of_ble_eq_true rfl, Nat.le_of_ble_eq_true rfl⟩ hP hD rfl rfl (zj_same hD hS hA) hS hl.1 rfl (Nat.le_of_ble_eq_true rfl) dX7_firstFault_27 ⟨Nat.zero_le _, Nat.zero_le _⟩ rfl (fun H locs hP hD hS => ?_)
          refine lv_if_ne (tgt := 35) X.1 X.2.1 dX7_firstFault_30 (by decide) (fun c13 => ?_) (fun c13 => ?_)
          · have hf := ite_f hf c13
            obtain ⟨w14, ew14, hf⟩ := stp_e hf
            refine lv_iinc (v := w14) (lv' := [(1, .int w14), (0, .ref (aT 0))]) X.1 X.2.1 dX7_firstFault_35 hl (k := 1) rfl (by rw [ew14]; rfl) (by decide) rfl (fun ls hl => ?_)
            refine lv_goto (tgt := 2) X.1 X.2.1 dX7_firstFault_38 (by decide) ?_
            exact ih _ hf _ _ hP hD hS _ (lv_sub hl [1, 0] rfl)
          · have hf := ite_t hf c13
            refine lv_iload_n X.1 X.2.1 dX7_firstFault_33 rfl (lv_at hl 1 rfl) ?_
            obtain rfl := z_inj1 hf
            exact z_iret X hr hlk hP hD hS dX7_firstFault_34
  rw [fX7_firstFault] at hf
  refine lv_iconst (v := 0) X.1 X.2.1 dX7_firstFault_0 (by decide) ?_
  refine lv_istore_n (lv' := [(1, .int 0), (0, .ref (aT 0))]) X.1 X.2.1 dX7_firstFault_1 rfl hl (by decide) rfl (fun ls hl => ?_)
  exact L2_0  _ _ hf _ _ hP hD hS _ (lv_sub hl [1, 0] rfl)
abbrev rmX7_parts : Room := { frames := 2, cells := 0, slots := 0, locals := 46 }
set_option maxHeartbeats 4000000 in
set_option maxRecDepth 100000 in
theorem kX7_parts (l : Launch) (D : va_G) (K : Nat → ClassId) (aT : Nat → Nat) (t0 : St) (sz : Nat)  (q_ : Int32) (hf : fX7_parts t0 = some q_) : Met l yX7_parts (bw (Cond.code yX7_parts cX7_parts 1 (some .int))) rmX7_parts (va_Pc [.ref (aT 0)] (zB D K sz (wbX7 K aT t0))) (zQ (some (.int q_)) D (va_A (wbX7 K aT t0) sz) (wbX7 K aT t0)) 0 0 (va_A (wbX7 K aT t0) sz) := by
  refine z_of (cc := cX7_parts) (maxL := 1) (ret := (some .int)) (own := RX7) (lv := [(0, .ref (aT 0))]) (by decide) rfl rfl (Nat.le_of_ble_eq_true rfl) rfl ?_
  intro p e s m below meth c X hr hlk hK hN hsz hP hD hA hS hin ls hl
  generalize va_A (wbX7 K aT t0) sz = A at hD hA hS hN ⊢
  have hiX7 : ∀ w ∈ u_ws RX7 TX7 4, w ∈ (bw (Cond.code yX7_parts cX7_parts 1 (some .int))) := fun w h => bw_in (inlX7 w h)
  rw [fX7_parts] at hf
  refine lv_aload_n X.1 X.2.1 dX7_parts_0 rfl (lv_at hl 0 rfl) ?_
  obtain ⟨r1, hc2, hf⟩ := bd1_e hf
  refine z_V (n := 0) (As := []) (rest := []) (ci := 7) (q0 := 0) X hK hN (kX7_firstFault l D K aT t0 _ r1 hc2) (bw_V W12_6 W9_17 W9_18 W2_20 W9_19) rfl ⟨rfl, rfl⟩ (by decide +kernel) rfl ⟨Nat.le_of_ble_eq_true rfl, Nat.le_of_ble_eq_true rfl⟩ hP hD rfl rfl (zj_same hD hS hA) hS hl.1 rfl (Nat.le_of_ble_eq_true rfl) dX7_parts_1 ⟨Nat.zero_le _, Nat.zero_le _⟩ rfl (fun H locs hP hD hS => ?_)
  refine lv_iconst (v := -1) X.1 X.2.1 dX7_parts_4 (by decide) ?_
  refine lv_icmp_eq (tgt := 10) X.1 X.2.1 dX7_parts_5 (by decide) (fun c3 => ?_) (fun c3 => ?_)
  · have hf := ite_t hf c3
    refine lv_aload_n X.1 X.2.1 dX7_parts_10 rfl (lv_at hl 0 rfl) ?_
    refine z_get X hK hP hiX7 0 rfl rfl 0 (by decide) (bw_in W6_3) rfl dX7_parts_11 ?_
    refine lv_iconst (v := 2) X.1 X.2.1 dX7_parts_14 (by decide) ?_
    refine lv_icmp_ne (tgt := 25) X.1 X.2.1 dX7_parts_15 (by decide) (fun c4 => ?_) (fun c4 => ?_)
    · have hf := ite_f hf c4
      refine lv_aload_n X.1 X.2.1 dX7_parts_25 rfl (lv_at hl 0 rfl) ?_
      refine z_get X hK hP hiX7 0 rfl rfl 3 (by decide) (bw_in W6_2) rfl dX7_parts_26 ?_
      refine lv_iconst (v := 1) X.1 X.2.1 dX7_parts_29 (by decide) ?_
      refine lv_iadd X.1 X.2.1 dX7_parts_30 ?_
      refine lv_iconst (v := 4) X.1 X.2.1 dX7_parts_31 (by decide) ?_
      refine lv_idiv X.1 X.2.1 dX7_parts_32 (by decide) ?_
      obtain rfl := z_inj1 hf
      exact z_iret X hr hlk hP hD hS dX7_parts_33
    · have hf := ite_t hf c4
      refine lv_aload_n X.1 X.2.1 dX7_parts_18 rfl (lv_at hl 0 rfl) ?_
      refine z_get X hK hP hiX7 0 rfl rfl 3 (by decide) (bw_in W6_2) rfl dX7_parts_19 ?_
      refine lv_goto (tgt := 33) X.1 X.2.1 dX7_parts_22 (by decide) ?_
      obtain rfl := z_inj1 hf
      exact z_iret X hr hlk hP hD hS dX7_parts_33
  · have hf := ite_f hf c3
    refine lv_iconst (v := 0) X.1 X.2.1 dX7_parts_8 (by decide) ?_
    obtain rfl := z_inj1 hf
    exact z_iret X hr hlk hP hD hS dX7_parts_9
abbrev rmX5_holds : Room := { frames := 0, cells := 0, slots := 0, locals := 0 }
set_option maxHeartbeats 4000000 in
set_option maxRecDepth 100000 in
theorem kX5_holds (l : Launch) (D : va_G) (K : Nat → ClassId) (aE : Nat → Nat) (e0 : St) (sz : Nat) (x1 : Int32) (x2 : Int32) (q_ : Int32) (hf : fX5_holds e0 x1 x2 = some q_) : Met l yX5_holds (bw (Cond.code yX5_holds cX5_holds 3 (some .boolean))) rmX5_holds (va_Pc [.ref (aE 0), .int x1, .int x2] (zB D K sz (wbX5 K aE e0))) (zQ (some (.int q_)) D (va_A (wbX5 K aE e0) sz) (wbX5 K aE e0)) 0 0 (va_A (wbX5 K aE e0) sz) := by
  refine z_of (cc := cX5_holds) (maxL := 3) (ret := (some .boolean)) (own := RX5) (lv := [(0, .ref (aE 0)), (1, .int x1), (2, .int x2)]) (by decide) rfl rfl (Nat.le_of_ble_eq_true rfl) rfl ?_
  intro p e s m below meth c X hr hlk hK hN hsz hP hD hA hS hin ls hl
  generalize va_A (wbX5 K aE e0) sz = A at hD hA hS hN ⊢
  have hiX5 : ∀ w ∈ u_ws RX5 TX5 4, w ∈ (bw (Cond.code yX5_holds cX5_holds 3 (some .boolean))) := fun w h => bw_in (inlX5 w h)
  rw [fX5_holds] at hf
  refine lv_iload_n X.1 X.2.1 dX5_holds_0 rfl (lv_at hl 1 rfl) ?_
  refine lv_if_lt (tgt := 22) X.1 X.2.1 dX5_holds_1 (by decide) (fun c1 => ?_) (fun c1 => ?_)
  · have hf := ite_t hf c1
    refine lv_iconst (v := 0) X.1 X.2.1 dX5_holds_22 (by decide) ?_
    obtain rfl := z_inj1 hf
    exact z_zret X hr hlk (by decide) hP hD hS dX5_holds_23
  · have hf := ite_f hf c1
    refine lv_iload_n X.1 X.2.1 dX5_holds_4 rfl (lv_at hl 2 rfl) ?_
    refine lv_if_lt (tgt := 22) X.1 X.2.1 dX5_holds_5 (by decide) (fun c2 => ?_) (fun c2 => ?_)
    · have hf := ite_t hf c2
      refine lv_iconst (v := 0) X.1 X.2.1 dX5_holds_22 (by decide) ?_
      obtain rfl := z_inj1 hf
      exact z_zret X hr hlk (by decide) hP hD hS dX5_holds_23
    · have hf := ite_f hf c2
      refine lv_iload_n X.1 X.2.1 dX5_holds_8 rfl (lv_at hl 2 rfl) ?_
      refine lv_aload_n X.1 X.2.1 dX5_holds_9 rfl (lv_at hl 0 rfl) ?_
      refine z_get X hK hP hiX5 0 rfl rfl 2 (by decide) (bw_in W6_10) rfl dX5_holds_10 ?_
      refine lv_iload_n X.1 X.2.1 dX5_holds_13 rfl (lv_at hl 1 rfl) ?_
      refine lv_isub X.1 X.2.1 dX5_holds_14 ?_
      refine lv_icmp_gt (tgt := 22) X.1 X.2.1 dX5_holds_15 (by decide) (fun c3 => ?_) (fun c3 => ?_)
      · have hf := ite_t hf c3
        refine lv_iconst (v := 0) X.1 X.2.1 dX5_holds_22 (by decide) ?_
        obtain rfl := z_inj1 hf
        exact z_zret X hr hlk (by decide) hP hD hS dX5_holds_23
      · have hf := ite_f hf c3
        refine lv_iconst (v := 1) X.1 X.2.1 dX5_holds_18 (by decide) ?_
        refine lv_goto (tgt := 23) X.1 X.2.1 dX5_holds_19 (by decide) ?_
        obtain rfl := z_inj1 hf
        exact z_zret X hr hlk (by decide) hP hD hS dX5_holds_23
abbrev rmX5_make : Room := { frames := 1, cells := 0, slots := 0, locals := 23 }
set_option maxHeartbeats 4000000 in
set_option maxRecDepth 100000 in
theorem kX5_make (l : Launch) (D : va_G) (K : Nat → ClassId) (aE : Nat → Nat) (e0 : St) (sz : Nat) (x1 : Int32) (x2 : Int32) (e_ : St) (hf : fX5_make e0 x1 x2 = some e_) : Met l yX5_make (bw (Cond.code yX5_make cX5_make 3 none)) rmX5_make (va_Pc [.ref (aE 0), .int x1, .int x2] (zB D K sz (wbX5 K aE e0))) (zQ (none) D (va_A (wbX5 K aE e0) sz) (wbX5 K aE e_)) 0 0 (va_A (wbX5 K aE e0) sz) := by
  refine z_of (cc := cX5_make) (maxL := 3) (ret := none) (own := RX5) (lv := [(0, .ref (aE 0)), (1, .int x1), (2, .int x2)]) (by decide) rfl rfl (Nat.le_of_ble_eq_true rfl) rfl ?_
  intro p e s m below meth c X hr hlk hK hN hsz hP hD hA hS hin ls hl
  generalize va_A (wbX5 K aE e0) sz = A at hD hA hS hN ⊢
  have hiX5 : ∀ w ∈ u_ws RX5 TX5 4, w ∈ (bw (Cond.code yX5_make cX5_make 3 none)) := fun w h => bw_in (inlX5 w h)
  rw [fX5_make] at hf
  refine lv_aload_n X.1 X.2.1 dX5_make_0 rfl (lv_at hl 0 rfl) ?_
  refine lv_iconst (v := 0) X.1 X.2.1 dX5_make_1 (by decide) ?_
  obtain ⟨e1, ee1, hf⟩ := stp_e hf
  refine z_put (ws' := wbX5 K aE e1) X hK hP hD hS hiX5 tyX5_ok nmX5 0 rfl rfl 0 (by decide) (bw_in W6_8) rfl (by decide) (by decide) (Nat.le_of_ble_eq_true rfl) dX5_make_2 (by rw [ee1]; rfl) (fun H locs hP hD hS => ?_)
  refine lv_aload_n X.1 X.2.1 dX5_make_5 rfl (lv_at hl 0 rfl) ?_
  refine lv_iload_n X.1 X.2.1 dX5_make_6 rfl (lv_at hl 1 rfl) ?_
  obtain ⟨e2, ee2, hf⟩ := stp_e hf
  refine z_put (ws' := wbX5 K aE e2) X hK hP hD hS hiX5 tyX5_ok nmX5 0 rfl rfl 1 (by decide) (bw_in W6_9) rfl rfl rfl (Nat.le_of_ble_eq_true rfl) dX5_make_7 (by rw [ee2]; rfl) (fun H locs hP hD hS => ?_)
  refine lv_aload_n X.1 X.2.1 dX5_make_10 rfl (lv_at hl 0 rfl) ?_
  refine lv_iconst (v := 0) X.1 X.2.1 dX5_make_11 (by decide) ?_
  refine lv_iload_n X.1 X.2.1 dX5_make_12 rfl (lv_at hl 2 rfl) ?_
  refine lv_bipush (v := 60) X.1 X.2.1 dX5_make_13 (by decide) ?_
  refine va_mmin X.1 X.2.1 (X.2.2.1.trans hl.1.symm) X.2.2.2.1 (X.2.2.2.2 _ (bw_in W38_22)) (X.2.2.2.2 _ (bw_in W11_23)) (X.2.2.2.2 _ (bw_in W12_0)) (X.2.2.2.2 _ (bw_in W12_1)) (Nat.le_of_ble_eq_true rfl) (Nat.le_of_ble_eq_true rfl) (Nat.zero_le _) (Nat.zero_le _) dX5_make_15 ?_
  refine va_mmax X.1 X.2.1 (X.2.2.1.trans hl.1.symm) X.2.2.2.1 (X.2.2.2.2 _ (bw_in W38_23)) (X.2.2.2.2 _ (bw_in W35_13)) (X.2.2.2.2 _ (bw_in W12_0)) (X.2.2.2.2 _ (bw_in W35_14)) (Nat.le_of_ble_eq_true rfl) (Nat.le_of_ble_eq_true rfl) (Nat.zero_le _) (Nat.zero_le _) dX5_make_18 ?_
  obtain ⟨e3, ee3, hf⟩ := stp_e hf
  refine z_put (ws' := wbX5 K aE e3) X hK hP hD hS hiX5 tyX5_ok nmX5 0 rfl rfl 2 (by decide) (bw_in W6_10) rfl rfl rfl (Nat.le_of_ble_eq_true rfl) dX5_make_21 (by rw [ee3]; rfl) (fun H locs hP hD hS => ?_)
  refine lv_aload_n X.1 X.2.1 dX5_make_24 rfl (lv_at hl 0 rfl) ?_
  refine z_get X hK hP hiX5 0 rfl rfl 3 (by decide) (bw_in W6_11) rfl dX5_make_25 ?_
  refine lv_iconst (v := 0) X.1 X.2.1 dX5_make_28 (by decide) ?_
  obtain ⟨a4, hc5, hf⟩ := bd1_e hf
  obtain ⟨e6, ee6, hf⟩ := stp_e hf
  refine z_S (n := 2) (As := [.ref (aE 4), .int 0]) (rest := []) X hK hN (kJ7_fill_53178 l D K (aE 4) 60 (e3 4) _ 0 a4 hc5) (bw_S W39_0 W12_8 W12_9 W12_10) rfl ⟨rfl, rfl⟩ (by decide +kernel) rfl ⟨Nat.le_of_ble_eq_true rfl, Nat.le_of_ble_eq_true rfl⟩ (hP.sub [1] rfl) (hD.sub [1] (by decide) rfl) (zj_sub (ws' := wbX5 K aE e6) hP hD hS hA [1] [0] [0, 1] rfl rfl (by decide) (by decide) (by decide) (by rw [ee6]; rfl)) hS hl.1 rfl (Nat.le_of_ble_eq_true rfl) dX5_make_29 ⟨Nat.zero_le _, Nat.zero_le _⟩ rfl (fun H locs hP hD hS => ?_)
  obtain rfl := z_inj1 hf
  exact z_vret X hr hlk hP hD hS dX5_make_32
abbrev rmX5_refuses : Room := { frames := 0, cells := 0, slots := 0, locals := 0 }
set_option maxHeartbeats 4000000 in
set_option maxRecDepth 100000 in
theorem kX5_refuses (l : Launch) (D : va_G) (K : Nat → ClassId) (aE : Nat → Nat) (e0 : St) (sz : Nat) (x1 : Int32) (x2 : Int32) (q_ : Int32) (hf : fX5_refuses e0 x1 x2 = some q_) : Met l yX5_refuses (bw (Cond.code yX5_refuses cX5_refuses 3 (some .int))) rmX5_refuses (va_Pc [.ref (aE 0), .int x1, .int x2] (zB D K sz (wbX5 K aE e0))) (zQ (some (.int q_)) D (va_A (wbX5 K aE e0) sz) (wbX5 K aE e0)) 0 0 (va_A (wbX5 K aE e0) sz) := by
  refine z_of (cc := cX5_refuses) (maxL := 3) (ret := (some .int)) (own := RX5) (lv := [(0, .ref (aE 0)), (1, .int x1), (2, .int x2)]) (by decide) rfl rfl (Nat.le_of_ble_eq_true rfl) rfl ?_
  intro p e s m below meth c X hr hlk hK hN hsz hP hD hA hS hin ls hl
  generalize va_A (wbX5 K aE e0) sz = A at hD hA hS hN ⊢
  have hiX5 : ∀ w ∈ u_ws RX5 TX5 4, w ∈ (bw (Cond.code yX5_refuses cX5_refuses 3 (some .int))) := fun w h => bw_in (inlX5 w h)
  rw [fX5_refuses] at hf
  refine lv_aload_n X.1 X.2.1 dX5_refuses_0 rfl (lv_at hl 0 rfl) ?_
  refine z_get X hK hP hiX5 0 rfl rfl 0 (by decide) (bw_in W6_8) rfl dX5_refuses_1 ?_
  refine lv_if_eq (tgt := 9) X.1 X.2.1 dX5_refuses_4 (by decide) (fun c1 => ?_) (fun c1 => ?_)
  · have hf := ite_t hf c1
    refine lv_aload_n X.1 X.2.1 dX5_refuses_9 rfl (lv_at hl 0 rfl) ?_
    refine z_get X hK hP hiX5 0 rfl rfl 1 (by decide) (bw_in W6_9) rfl dX5_refuses_10 ?_
    refine lv_iload_n X.1 X.2.1 dX5_refuses_13 rfl (lv_at hl 1 rfl) ?_
    refine lv_icmp_eq (tgt := 19) X.1 X.2.1 dX5_refuses_14 (by decide) (fun c2 => ?_) (fun c2 => ?_)
    · have hf := ite_t hf c2
      refine lv_iload_n X.1 X.2.1 dX5_refuses_19 rfl (lv_at hl 2 rfl) ?_
      refine lv_if_lt (tgt := 31) X.1 X.2.1 dX5_refuses_20 (by decide) (fun c3 => ?_) (fun c3 => ?_)
      · have hf := ite_t hf c3
        refine lv_iconst (v := 2) X.1 X.2.1 dX5_refuses_31 (by decide) ?_
        refine lv_goto (tgt := 36) X.1 X.2.1 dX5_refuses_32 (by decide) ?_
        obtain rfl := z_inj1 hf
        exact z_iret X hr hlk hP hD hS dX5_refuses_36
      · have hf := ite_f hf c3
        refine lv_iload_n X.1 X.2.1 dX5_refuses_23 rfl (lv_at hl 2 rfl) ?_
        refine lv_aload_n X.1 X.2.1 dX5_refuses_24 rfl (lv_at hl 0 rfl) ?_
        refine z_get X hK hP hiX5 0 rfl rfl 2 (by decide) (bw_in W6_10) rfl dX5_refuses_25 ?_
        refine lv_icmp_lt (tgt := 35) X.1 X.2.1 dX5_refuses_28 (by decide) (fun c4 => ?_) (fun c4 => ?_)
        · have hf := ite_t hf c4
          refine lv_iconst (v := 0) X.1 X.2.1 dX5_refuses_35 (by decide) ?_
          obtain rfl := z_inj1 hf
          exact z_iret X hr hlk hP hD hS dX5_refuses_36
        · have hf := ite_f hf c4
          refine lv_iconst (v := 2) X.1 X.2.1 dX5_refuses_31 (by decide) ?_
          refine lv_goto (tgt := 36) X.1 X.2.1 dX5_refuses_32 (by decide) ?_
          obtain rfl := z_inj1 hf
          exact z_iret X hr hlk hP hD hS dX5_refuses_36
    · have hf := ite_f hf c2
      refine lv_iconst (v := 3) X.1 X.2.1 dX5_refuses_17 (by decide) ?_
      obtain rfl := z_inj1 hf
      exact z_iret X hr hlk hP hD hS dX5_refuses_18
  · have hf := ite_f hf c1
    refine lv_iconst (v := 1) X.1 X.2.1 dX5_refuses_7 (by decide) ?_
    obtain rfl := z_inj1 hf
    exact z_iret X hr hlk hP hD hS dX5_refuses_8
abbrev rmX5_store : Room := { frames := 0, cells := 0, slots := 0, locals := 0 }
set_option maxHeartbeats 4000000 in
set_option maxRecDepth 100000 in
theorem kX5_store (l : Launch) (D : va_G) (K : Nat → ClassId) (aE : Nat → Nat) (e0 : St) (sz : Nat) (x1 : Int32) (x2 : Int32) (e_ : St) (hf : fX5_store e0 x1 x2 = some e_) : Met l yX5_store (bw (Cond.code yX5_store cX5_store 3 none)) rmX5_store (va_Pc [.ref (aE 0), .int x1, .int x2] (zB D K sz (wbX5 K aE e0))) (zQ (none) D (va_A (wbX5 K aE e0) sz) (wbX5 K aE e_)) 0 0 (va_A (wbX5 K aE e0) sz) := by
  refine z_of (cc := cX5_store) (maxL := 3) (ret := none) (own := RX5) (lv := [(0, .ref (aE 0)), (1, .int x1), (2, .int x2)]) (by decide) rfl rfl (Nat.le_of_ble_eq_true rfl) rfl ?_
  intro p e s m below meth c X hr hlk hK hN hsz hP hD hA hS hin ls hl
  generalize va_A (wbX5 K aE e0) sz = A at hD hA hS hN ⊢
  have hiX5 : ∀ w ∈ u_ws RX5 TX5 4, w ∈ (bw (Cond.code yX5_store cX5_store 3 none)) := fun w h => bw_in (inlX5 w h)
  rw [fX5_store] at hf
  refine lv_iload_n X.1 X.2.1 dX5_store_0 rfl (lv_at hl 1 rfl) ?_
  refine lv_if_lt (tgt := 12) X.1 X.2.1 dX5_store_1 (by decide) (fun c1 => ?_) (fun c1 => ?_)
  · have hf := ite_t hf c1
    obtain rfl := z_inj1 hf
    exact z_vret X hr hlk hP hD hS dX5_store_12
  · have hf := ite_f hf c1
    refine lv_iload_n X.1 X.2.1 dX5_store_4 rfl (lv_at hl 1 rfl) ?_
    refine lv_aload_n X.1 X.2.1 dX5_store_5 rfl (lv_at hl 0 rfl) ?_
    refine z_get X hK hP hiX5 0 rfl rfl 2 (by decide) (bw_in W6_10) rfl dX5_store_6 ?_
    refine lv_icmp_lt (tgt := 13) X.1 X.2.1 dX5_store_9 (by decide) (fun c2 => ?_) (fun c2 => ?_)
    · have hf := ite_t hf c2
      refine lv_aload_n X.1 X.2.1 dX5_store_13 rfl (lv_at hl 0 rfl) ?_
      refine z_get X hK hP hiX5 0 rfl rfl 3 (by decide) (bw_in W6_11) rfl dX5_store_14 ?_
      refine lv_iload_n X.1 X.2.1 dX5_store_17 rfl (lv_at hl 1 rfl) ?_
      refine lv_aload_n X.1 X.2.1 dX5_store_18 rfl (lv_at hl 0 rfl) ?_
      refine z_get X hK hP hiX5 0 rfl rfl 1 (by decide) (bw_in W6_9) rfl dX5_store_19 ?_
      refine lv_if_ne (tgt := 30) X.1 X.2.1 dX5_store_22 (by decide) (fun c3 => ?_) (fun c3 => ?_)
      · have hf := ite_f hf c3
        refine lv_aload_n X.1 X.2.1 dX5_store_30 rfl (lv_at hl 0 rfl) ?_
        refine z_get X hK hP hiX5 0 rfl rfl 1 (by decide) (bw_in W6_9) rfl dX5_store_31 ?_
        refine lv_iconst (v := 1) X.1 X.2.1 dX5_store_34 (by decide) ?_
        refine lv_icmp_ne (tgt := 43) X.1 X.2.1 dX5_store_35 (by decide) (fun c4 => ?_) (fun c4 => ?_)
        · have hf := ite_f hf c4
          refine lv_iload_n X.1 X.2.1 dX5_store_43 rfl (lv_at hl 2 rfl) ?_
          obtain ⟨hi5, hf⟩ := chk_e hf
          obtain ⟨e6, ee6, hf⟩ := stp_e hf
          refine z_iast (ws' := wbX5 K aE e6) X hK hP hD hS 1 rfl hi5 dX5_store_44 (by rw [ee6]; rfl) (fun H locs hP hD hS => ?_)
          obtain rfl := z_inj1 hf
          exact z_vret X hr hlk hP hD hS dX5_store_45
        · have hf := ite_t hf c4
          refine lv_iload_n X.1 X.2.1 dX5_store_38 rfl (lv_at hl 2 rfl) ?_
          refine lv_i2s X.1 X.2.1 dX5_store_39 rfl ?_
          refine lv_goto (tgt := 44) X.1 X.2.1 dX5_store_40 (by decide) ?_
          obtain ⟨hi7, hf⟩ := chk_e hf
          obtain ⟨e8, ee8, hf⟩ := stp_e hf
          refine z_iast (ws' := wbX5 K aE e8) X hK hP hD hS 1 rfl hi7 dX5_store_44 (by rw [ee8]; rfl) (fun H locs hP hD hS => ?_)
          obtain rfl := z_inj1 hf
          exact z_vret X hr hlk hP hD hS dX5_store_45
      · have hf := ite_t hf c3
        refine lv_iload_n X.1 X.2.1 dX5_store_25 rfl (lv_at hl 2 rfl) ?_
        refine lv_i2b X.1 X.2.1 dX5_store_26 rfl ?_
        refine lv_goto (tgt := 44) X.1 X.2.1 dX5_store_27 (by decide) ?_
        obtain ⟨hi9, hf⟩ := chk_e hf
        obtain ⟨e10, ee10, hf⟩ := stp_e hf
        refine z_iast (ws' := wbX5 K aE e10) X hK hP hD hS 1 rfl hi9 dX5_store_44 (by rw [ee10]; rfl) (fun H locs hP hD hS => ?_)
        obtain rfl := z_inj1 hf
        exact z_vret X hr hlk hP hD hS dX5_store_45
    · have hf := ite_f hf c2
      obtain rfl := z_inj1 hf
      exact z_vret X hr hlk hP hD hS dX5_store_12
abbrev rmX2_allLeavers : Room := { frames := 0, cells := 0, slots := 0, locals := 0 }
set_option maxHeartbeats 4000000 in
set_option maxRecDepth 100000 in
theorem kX2_allLeavers (l : Launch) (D : va_G) (K : Nat → ClassId) (aH : Nat → Nat) (h0 : St) (sz : Nat)  (q_ : Int32) (hf : fX2_allLeavers h0 = some q_) : Met l yX2_allLeavers (bw (Cond.code yX2_allLeavers cX2_allLeavers 1 (some .int))) rmX2_allLeavers (va_Pc [.ref (aH 0)] (zB D K sz (wbX2 K aH h0))) (zQ (some (.int q_)) D (va_A (wbX2 K aH h0) sz) (wbX2 K aH h0)) 0 0 (va_A (wbX2 K aH h0) sz) := by
  refine z_of (cc := cX2_allLeavers) (maxL := 1) (ret := (some .int)) (own := RX2) (lv := [(0, .ref (aH 0))]) (by decide) rfl rfl (Nat.le_of_ble_eq_true rfl) rfl ?_
  intro p e s m below meth c X hr hlk hK hN hsz hP hD hA hS hin ls hl
  generalize va_A (wbX2 K aH h0) sz = A at hD hA hS hN ⊢
  have hiX2 : ∀ w ∈ u_ws RX2 TX2 14, w ∈ (bw (Cond.code yX2_allLeavers cX2_allLeavers 1 (some .int))) := fun w h => bw_in (inlX2 w h)
  rw [fX2_allLeavers] at hf
  refine lv_iconst (v := 1) X.1 X.2.1 dX2_allLeavers_0 (by decide) ?_
  refine lv_aload_n X.1 X.2.1 dX2_allLeavers_1 rfl (lv_at hl 0 rfl) ?_
  refine z_get X hK hP hiX2 0 rfl rfl 3 (by decide) (bw_in W3_5) rfl dX2_allLeavers_2 ?_
  refine lv_ishl X.1 X.2.1 dX2_allLeavers_5 ?_
  refine lv_iconst (v := 1) X.1 X.2.1 dX2_allLeavers_6 (by decide) ?_
  refine lv_isub X.1 X.2.1 dX2_allLeavers_7 ?_
  obtain rfl := z_inj1 hf
  exact z_iret X hr hlk hP hD hS dX2_allLeavers_8
abbrev rmX2_noteFloors : Room := { frames := 0, cells := 0, slots := 0, locals := 0 }
set_option maxHeartbeats 4000000 in
set_option maxRecDepth 100000 in
theorem kX2_noteFloors (l : Launch) (D : va_G) (K : Nat → ClassId) (aH : Nat → Nat) (h0 : St) (sz : Nat) (x1 : Int32) (h_ : St) (hf : fX2_noteFloors h0 x1 = some h_) : Met l yX2_noteFloors (bw (Cond.code yX2_noteFloors cX2_noteFloors 3 none)) rmX2_noteFloors (va_Pc [.ref (aH 0), .int x1] (zB D K sz (wbX2 K aH h0))) (zQ (none) D (va_A (wbX2 K aH h0) sz) (wbX2 K aH h_)) 0 0 (va_A (wbX2 K aH h0) sz) := by
  refine z_of (cc := cX2_noteFloors) (maxL := 3) (ret := none) (own := RX2) (lv := [(0, .ref (aH 0)), (1, .int x1)]) (by decide) rfl rfl (Nat.le_of_ble_eq_true rfl) rfl ?_
  intro p e s m below meth c X hr hlk hK hN hsz hP hD hA hS hin ls hl
  generalize va_A (wbX2 K aH h0) sz = A at hD hA hS hN ⊢
  have hiX2 : ∀ w ∈ u_ws RX2 TX2 14, w ∈ (bw (Cond.code yX2_noteFloors cX2_noteFloors 3 none)) := fun w h => bw_in (inlX2 w h)
  have L2_0 : ∀ (n : Nat), ∀ (n2_0 : Int32) (n2_1 : Int32) (q2_H : St), fX2_noteFloors_2 n n2_0 n2_1 q2_H = some h_ → ∀ (H : Heap) (locs : List Loc), va_P D vwCl (wbX2 K aH q2_H) H → va_D A (wbX2 K aH q2_H) → va_S A s.heap H locs → ∀ (ls : Array Slot), lv_has ls 3 [(0, .ref (aH 0)), (1, .int n2_0), (2, .int n2_1)] → W p l e rmX2_noteFloors s m ([.ref (aH 0), .int x1] : List Value).toArray below meth c H locs 0 0 (MQ below (zQ (none) D A (wbX2 K aH h_)) ([.ref (aH 0), .int x1] : List Value).toArray s 0 0 A) (F0 m 2 ls []) := by
    intro n
    induction n with
    | zero =>
      intro n2_0 n2_1 q2_H hf
      rw [fX2_noteFloors_2] at hf
      cases hf
    | succ n ih =>
      intro n2_0 n2_1 q2_H hf H locs hP hD hS ls hl
      rw [fX2_noteFloors_2] at hf
      refine lv_iload_n X.1 X.2.1 dX2_noteFloors_2 rfl (lv_at hl 2 rfl) ?_
      refine lv_bipush (v := 10) X.1 X.2.1 dX2_noteFloors_3 (by decide) ?_
      refine lv_icmp_ge (tgt := 58) X.1 X.2.1 dX2_noteFloors_5 (by decide) (fun c1 => ?_) (fun c1 => ?_)
      · have hf := ite_t hf c1
        obtain rfl := z_inj1 hf
        exact z_vret X hr hlk hP hD hS dX2_noteFloors_58
      · have hf := ite_f hf c1
        refine lv_aload_n X.1 X.2.1 dX2_noteFloors_8 rfl (lv_at hl 0 rfl) ?_
        refine z_get X hK hP hiX2 0 rfl rfl 7 (by decide) (bw_in W3_10) rfl dX2_noteFloors_9 ?_
        refine lv_iload_n X.1 X.2.1 dX2_noteFloors_12 rfl (lv_at hl 1 rfl) ?_
        obtain ⟨hi3, hf⟩ := chk_e hf
        obtain ⟨v2, ev2, hf⟩ := stp_e hf
        refine z_iald X hK hP 2 rfl hi3 ev2 dX2_noteFloors_13 ?_
        refine lv_iload_n X.1 X.2.1 dX2_noteFloors_14 rfl (lv_at hl 2 rfl) ?_
        refine lv_icmp_ne (tgt := 30) X.1 X.2.1 dX2_noteFloors_15 (by decide) (fun c4 => ?_) (fun c4 => ?_)
        · have hf := ite_f hf c4
          refine lv_aload_n X.1 X.2.1 dX2_noteFloors_30 rfl (lv_at hl 0 rfl) ?_
          refine z_get X hK hP hiX2 0 rfl rfl 8 (by decide) (bw_in W3_11) rfl dX2_noteFloors_31 ?_
          refine lv_iload_n X.1 X.2.1 dX2_noteFloors_34 rfl (lv_at hl 1 rfl) ?_
          obtain ⟨hi6, hf⟩ := chk_e hf
          obtain ⟨v5, ev5, hf⟩ := stp_e hf
          refine z_iald X hK hP 3 rfl hi6 ev5 dX2_noteFloors_35 ?_
          refine lv_iload_n X.1 X.2.1 dX2_noteFloors_36 rfl (lv_at hl 2 rfl) ?_
          refine lv_icmp_ne (tgt := 52) X.1 X.2.1 dX2_noteFloors_37 (by decide) (fun c7 => ?_) (fun c7 => ?_)
          · have hf := ite_f hf c7
            obtain ⟨w8, ew8, hf⟩ := stp_e hf
            refine lv_iinc (v := w8) (lv' := [(2, .int w8), (0, .ref (aH 0)), (1, .int n2_0)]) X.1 X.2.1 dX2_noteFloors_52 hl (k := 2) rfl (by rw [ew8]; rfl) (by decide) rfl (fun ls hl => ?_)
            refine lv_goto (tgt := 2) X.1 X.2.1 dX2_noteFloors_55 (by decide) ?_
            exact ih _ _ _ hf _ _ hP hD hS _ (lv_sub hl [1, 2, 0] rfl)
          · have hf := ite_t hf c7
            refine lv_aload_n X.1 X.2.1 dX2_noteFloors_40 rfl (lv_at hl 0 rfl) ?_
            refine z_get X hK hP hiX2 0 rfl rfl 13 (by decide) (bw_in W3_16) rfl dX2_noteFloors_41 ?_
            refine lv_iload_n X.1 X.2.1 dX2_noteFloors_44 rfl (lv_at hl 2 rfl) ?_
            refine lv_dup2_11 X.1 X.2.1 dX2_noteFloors_45 rfl rfl ?_
            obtain ⟨hi10, hf⟩ := chk_e hf
            obtain ⟨v9, ev9, hf⟩ := stp_e hf
            refine z_iald X hK hP 8 rfl hi10 ev9 dX2_noteFloors_46 ?_
            refine lv_iconst (v := 1) X.1 X.2.1 dX2_noteFloors_47 (by decide) ?_
            refine lv_iload_n X.1 X.2.1 dX2_noteFloors_48 rfl (lv_at hl 1 rfl) ?_
            refine lv_ishl X.1 X.2.1 dX2_noteFloors_49 ?_
            refine lv_ior X.1 X.2.1 dX2_noteFloors_50 ?_
            obtain ⟨hi11, hf⟩ := chk_e hf
            obtain ⟨h12, eh12, hf⟩ := stp_e hf
            refine z_iast (ws' := wbX2 K aH h12) X hK hP hD hS 8 rfl hi11 dX2_noteFloors_51 (by rw [eh12]; rfl) (fun H locs hP hD hS => ?_)
            obtain ⟨w13, ew13, hf⟩ := stp_e hf
            refine lv_iinc (v := w13) (lv' := [(2, .int w13), (0, .ref (aH 0)), (1, .int n2_0)]) X.1 X.2.1 dX2_noteFloors_52 hl (k := 2) rfl (by rw [ew13]; rfl) (by decide) rfl (fun ls hl => ?_)
            refine lv_goto (tgt := 2) X.1 X.2.1 dX2_noteFloors_55 (by decide) ?_
            exact ih _ _ _ hf _ _ hP hD hS _ (lv_sub hl [1, 2, 0] rfl)
        · have hf := ite_t hf c4
          refine lv_aload_n X.1 X.2.1 dX2_noteFloors_18 rfl (lv_at hl 0 rfl) ?_
          refine z_get X hK hP hiX2 0 rfl rfl 12 (by decide) (bw_in W3_15) rfl dX2_noteFloors_19 ?_
          refine lv_iload_n X.1 X.2.1 dX2_noteFloors_22 rfl (lv_at hl 2 rfl) ?_
          refine lv_dup2_11 X.1 X.2.1 dX2_noteFloors_23 rfl rfl ?_
          obtain ⟨hi15, hf⟩ := chk_e hf
          obtain ⟨v14, ev14, hf⟩ := stp_e hf
          refine z_iald X hK hP 7 rfl hi15 ev14 dX2_noteFloors_24 ?_
          refine lv_iconst (v := 1) X.1 X.2.1 dX2_noteFloors_25 (by decide) ?_
          refine lv_iload_n X.1 X.2.1 dX2_noteFloors_26 rfl (lv_at hl 1 rfl) ?_
          refine lv_ishl X.1 X.2.1 dX2_noteFloors_27 ?_
          refine lv_ior X.1 X.2.1 dX2_noteFloors_28 ?_
          obtain ⟨hi16, hf⟩ := chk_e hf
          obtain ⟨h17, eh17, hf⟩ := stp_e hf
          refine z_iast (ws' := wbX2 K aH h17) X hK hP hD hS 7 rfl hi16 dX2_noteFloors_29 (by rw [eh17]; rfl) (fun H locs hP hD hS => ?_)
          refine lv_aload_n X.1 X.2.1 dX2_noteFloors_30 rfl (lv_at hl 0 rfl) ?_
          refine z_get X hK hP hiX2 0 rfl rfl 8 (by decide) (bw_in W3_11) rfl dX2_noteFloors_31 ?_
          refine lv_iload_n X.1 X.2.1 dX2_noteFloors_34 rfl (lv_at hl 1 rfl) ?_
          obtain ⟨hi19, hf⟩ := chk_e hf
          obtain ⟨v18, ev18, hf⟩ := stp_e hf
          refine z_iald X hK hP 3 rfl hi19 ev18 dX2_noteFloors_35 ?_
          refine lv_iload_n X.1 X.2.1 dX2_noteFloors_36 rfl (lv_at hl 2 rfl) ?_
          refine lv_icmp_ne (tgt := 52) X.1 X.2.1 dX2_noteFloors_37 (by decide) (fun c20 => ?_) (fun c20 => ?_)
          · have hf := ite_f hf c20
            obtain ⟨w21, ew21, hf⟩ := stp_e hf
            refine lv_iinc (v := w21) (lv' := [(2, .int w21), (0, .ref (aH 0)), (1, .int n2_0)]) X.1 X.2.1 dX2_noteFloors_52 hl (k := 2) rfl (by rw [ew21]; rfl) (by decide) rfl (fun ls hl => ?_)
            refine lv_goto (tgt := 2) X.1 X.2.1 dX2_noteFloors_55 (by decide) ?_
            exact ih _ _ _ hf _ _ hP hD hS _ (lv_sub hl [1, 2, 0] rfl)
          · have hf := ite_t hf c20
            refine lv_aload_n X.1 X.2.1 dX2_noteFloors_40 rfl (lv_at hl 0 rfl) ?_
            refine z_get X hK hP hiX2 0 rfl rfl 13 (by decide) (bw_in W3_16) rfl dX2_noteFloors_41 ?_
            refine lv_iload_n X.1 X.2.1 dX2_noteFloors_44 rfl (lv_at hl 2 rfl) ?_
            refine lv_dup2_11 X.1 X.2.1 dX2_noteFloors_45 rfl rfl ?_
            obtain ⟨hi23, hf⟩ := chk_e hf
            obtain ⟨v22, ev22, hf⟩ := stp_e hf
            refine z_iald X hK hP 8 rfl hi23 ev22 dX2_noteFloors_46 ?_
            refine lv_iconst (v := 1) X.1 X.2.1 dX2_noteFloors_47 (by decide) ?_
            refine lv_iload_n X.1 X.2.1 dX2_noteFloors_48 rfl (lv_at hl 1 rfl) ?_
            refine lv_ishl X.1 X.2.1 dX2_noteFloors_49 ?_
            refine lv_ior X.1 X.2.1 dX2_noteFloors_50 ?_
            obtain ⟨hi24, hf⟩ := chk_e hf
            obtain ⟨h25, eh25, hf⟩ := stp_e hf
            refine z_iast (ws' := wbX2 K aH h25) X hK hP hD hS 8 rfl hi24 dX2_noteFloors_51 (by rw [eh25]; rfl) (fun H locs hP hD hS => ?_)
            obtain ⟨w26, ew26, hf⟩ := stp_e hf
            refine lv_iinc (v := w26) (lv' := [(2, .int w26), (0, .ref (aH 0)), (1, .int n2_0)]) X.1 X.2.1 dX2_noteFloors_52 hl (k := 2) rfl (by rw [ew26]; rfl) (by decide) rfl (fun ls hl => ?_)
            refine lv_goto (tgt := 2) X.1 X.2.1 dX2_noteFloors_55 (by decide) ?_
            exact ih _ _ _ hf _ _ hP hD hS _ (lv_sub hl [1, 2, 0] rfl)
  rw [fX2_noteFloors] at hf
  refine lv_iconst (v := 0) X.1 X.2.1 dX2_noteFloors_0 (by decide) ?_
  refine lv_istore_n (lv' := [(2, .int 0), (0, .ref (aH 0)), (1, .int x1)]) X.1 X.2.1 dX2_noteFloors_1 rfl hl (by decide) rfl (fun ls hl => ?_)
  exact L2_0  _ _ _ _ hf _ _ hP hD hS _ (lv_sub hl [1, 2, 0] rfl)
