abbrev rmX2_takeLeavers : Room := { frames := 3, cells := 0, slots := 0, locals := 66 }
set_option maxHeartbeats 4000000 in
set_option maxRecDepth 100000 in
theorem kX2_takeLeavers (l : Launch) (D : va_G) (K : Nat → ClassId) (aH : Nat → Nat) (aT : Nat → Nat) (h0 : St) (t0 : St) (sz : Nat)  (h_ : St) (hf : fX2_takeLeavers h0 t0 = some h_) : Met l yX2_takeLeavers (bw (Cond.code yX2_takeLeavers cX2_takeLeavers 3 none)) rmX2_takeLeavers (va_Pc [.ref (aH 0), .ref (aT 0)] (zB D K sz (wbX2 K aH h0 ++ (wbX7 K aT t0)))) (zQ (none) D (va_A (wbX2 K aH h0 ++ (wbX7 K aT t0)) sz) (wbX2 K aH h_ ++ (wbX7 K aT t0))) 0 0 (va_A (wbX2 K aH h0 ++ (wbX7 K aT t0)) sz) := by
  refine z_of (cc := cX2_takeLeavers) (maxL := 3) (ret := none) (own := RX2) (lv := [(0, .ref (aH 0)), (1, .ref (aT 0))]) (by decide) rfl rfl (Nat.le_of_ble_eq_true rfl) rfl ?_
  intro p e s m below meth c X hr hlk hK hN hsz hP hD hA hS hin ls hl
  generalize va_A (wbX2 K aH h0 ++ (wbX7 K aT t0)) sz = A at hD hA hS hN ⊢
  have hiX2 : ∀ w ∈ u_ws RX2 TX2 14, w ∈ (bw (Cond.code yX2_takeLeavers cX2_takeLeavers 3 none)) := fun w h => bw_in (inlX2 w h)
  have L15_0 : ∀ (n : Nat), ∀ (n15_0 : Int32) (q15_H : St), fX2_takeLeavers_15 t0 n n15_0 q15_H = some h_ → ∀ (H : Heap) (locs : List Loc), va_P D vwCl (wbX2 K aH q15_H ++ (wbX7 K aT t0)) H → va_D A (wbX2 K aH q15_H ++ (wbX7 K aT t0)) → va_S A s.heap H locs → ∀ (ls : Array Slot), lv_has ls 3 [(0, .ref (aH 0)), (1, .ref (aT 0)), (2, .int n15_0)] → W p l e rmX2_takeLeavers s m ([.ref (aH 0), .ref (aT 0)] : List Value).toArray below meth c H locs 0 0 (MQ below (zQ (none) D A (wbX2 K aH h_ ++ (wbX7 K aT t0))) ([.ref (aH 0), .ref (aT 0)] : List Value).toArray s 0 0 A) (F0 m 15 ls []) := by
    intro n
    induction n with
    | zero =>
      intro n15_0 q15_H hf
      rw [fX2_takeLeavers_15] at hf
      cases hf
    | succ n ih =>
      intro n15_0 q15_H hf H locs hP hD hS ls hl
      rw [fX2_takeLeavers_15] at hf
      refine lv_iload_n X.1 X.2.1 dX2_takeLeavers_15 rfl (lv_at hl 2 rfl) ?_
      refine lv_aload_n X.1 X.2.1 dX2_takeLeavers_16 rfl (lv_at hl 0 rfl) ?_
      refine z_get X hK hP hiX2 0 rfl rfl 3 (by decide) (bw_in W3_5) rfl dX2_takeLeavers_17 ?_
      refine lv_icmp_ge (tgt := 70) X.1 X.2.1 dX2_takeLeavers_20 (by decide) (fun c4 => ?_) (fun c4 => ?_)
      · have hf := ite_t hf c4
        obtain rfl := z_inj1 hf
        exact z_vret X hr hlk hP hD hS dX2_takeLeavers_70
      · have hf := ite_f hf c4
        refine lv_aload_n X.1 X.2.1 dX2_takeLeavers_23 rfl (lv_at hl 0 rfl) ?_
        refine z_get X hK hP hiX2 0 rfl rfl 9 (by decide) (bw_in W3_12) rfl dX2_takeLeavers_24 ?_
        refine lv_iload_n X.1 X.2.1 dX2_takeLeavers_27 rfl (lv_at hl 2 rfl) ?_
        refine lv_bipush (v := 10) X.1 X.2.1 dX2_takeLeavers_28 (by decide) ?_
        refine lv_aload_n X.1 X.2.1 dX2_takeLeavers_30 rfl (lv_at hl 1 rfl) ?_
        refine lv_iconst (v := 4) X.1 X.2.1 dX2_takeLeavers_31 (by decide) ?_
        refine lv_iload_n X.1 X.2.1 dX2_takeLeavers_32 rfl (lv_at hl 2 rfl) ?_
        refine lv_imul X.1 X.2.1 dX2_takeLeavers_33 ?_
        obtain ⟨r5, hc6, hf⟩ := bd1_e hf
        refine z_V (n := 1) (As := [.int ((4 : Int32) * n15_0)]) (rest := [.int 10, .int n15_0, .ref (aH 10)]) (ci := 7) (q0 := 0) X hK hN (kX7_figure l D K aT t0 _ ((4 : Int32) * n15_0) r5 hc6) (bw_V W12_11 W12_12 W12_13 W2_20 W12_14) rfl ⟨rfl, rfl⟩ (by decide +kernel) rfl ⟨Nat.le_of_ble_eq_true rfl, Nat.le_of_ble_eq_true rfl⟩ (hP.sub [9, 10] rfl) (hD.sub [9, 10] (by decide) rfl) rfl rfl (zj_sub (ws' := wbX2 K aH q15_H ++ (wbX7 K aT t0)) hP hD hS hA [9, 10] [0, 1, 2, 3, 4, 5, 6, 7, 8] [0, 1, 2, 3, 4, 5, 6, 7, 8, 9, 10] rfl rfl (by decide) (by decide) (by decide) rfl) hS hl.1 rfl (Nat.le_of_ble_eq_true rfl) dX2_takeLeavers_34 ⟨Nat.zero_le _, Nat.zero_le _⟩ rfl (fun H locs hP hD hS => ?_)
        refine lv_imul X.1 X.2.1 dX2_takeLeavers_37 ?_
        refine lv_aload_n X.1 X.2.1 dX2_takeLeavers_38 rfl (lv_at hl 1 rfl) ?_
        refine lv_iconst (v := 4) X.1 X.2.1 dX2_takeLeavers_39 (by decide) ?_
        refine lv_iload_n X.1 X.2.1 dX2_takeLeavers_40 rfl (lv_at hl 2 rfl) ?_
        refine lv_imul X.1 X.2.1 dX2_takeLeavers_41 ?_
        refine lv_iconst (v := 1) X.1 X.2.1 dX2_takeLeavers_42 (by decide) ?_
        refine lv_iadd X.1 X.2.1 dX2_takeLeavers_43 ?_
        obtain ⟨r7, hc8, hf⟩ := bd1_e hf
        refine z_V (n := 1) (As := [.int (((4 : Int32) * n15_0) + 1)]) (rest := [.int ((10 : Int32) * r5), .int n15_0, .ref (aH 10)]) (ci := 7) (q0 := 0) X hK hN (kX7_figure l D K aT t0 _ (((4 : Int32) * n15_0) + 1) r7 hc8) (bw_V W12_11 W12_12 W12_13 W2_20 W12_14) rfl ⟨rfl, rfl⟩ (by decide +kernel) rfl ⟨Nat.le_of_ble_eq_true rfl, Nat.le_of_ble_eq_true rfl⟩ (hP.sub [9, 10] rfl) (hD.sub [9, 10] (by decide) rfl) rfl rfl (zj_sub (ws' := wbX2 K aH q15_H ++ (wbX7 K aT t0)) hP hD hS hA [9, 10] [0, 1, 2, 3, 4, 5, 6, 7, 8] [0, 1, 2, 3, 4, 5, 6, 7, 8, 9, 10] rfl rfl (by decide) (by decide) (by decide) rfl) hS hl.1 rfl (Nat.le_of_ble_eq_true rfl) dX2_takeLeavers_44 ⟨Nat.zero_le _, Nat.zero_le _⟩ rfl (fun H locs hP hD hS => ?_)
        refine lv_iadd X.1 X.2.1 dX2_takeLeavers_47 ?_
        obtain ⟨hi9, hf⟩ := chk_e hf
        obtain ⟨h10, eh10, hf⟩ := stp_e hf
        refine z_iast (ws' := wbX2 K aH h10 ++ (wbX7 K aT t0)) X hK hP hD hS 4 rfl hi9 dX2_takeLeavers_48 (by rw [eh10]; rfl) (fun H locs hP hD hS => ?_)
        refine lv_aload_n X.1 X.2.1 dX2_takeLeavers_49 rfl (lv_at hl 0 rfl) ?_
        refine z_get X hK hP hiX2 0 rfl rfl 10 (by decide) (bw_in W3_13) rfl dX2_takeLeavers_50 ?_
        refine lv_iload_n X.1 X.2.1 dX2_takeLeavers_53 rfl (lv_at hl 2 rfl) ?_
        refine lv_aload_n X.1 X.2.1 dX2_takeLeavers_54 rfl (lv_at hl 1 rfl) ?_
        refine lv_iconst (v := 4) X.1 X.2.1 dX2_takeLeavers_55 (by decide) ?_
        refine lv_iload_n X.1 X.2.1 dX2_takeLeavers_56 rfl (lv_at hl 2 rfl) ?_
        refine lv_imul X.1 X.2.1 dX2_takeLeavers_57 ?_
        refine lv_iconst (v := 2) X.1 X.2.1 dX2_takeLeavers_58 (by decide) ?_
        refine lv_iadd X.1 X.2.1 dX2_takeLeavers_59 ?_
        obtain ⟨r11, hc12, hf⟩ := bd1_e hf
        refine z_V (n := 1) (As := [.int (((4 : Int32) * n15_0) + 2)]) (rest := [.int n15_0, .ref (aH 11)]) (ci := 7) (q0 := 0) X hK hN (kX7_figure l D K aT t0 _ (((4 : Int32) * n15_0) + 2) r11 hc12) (bw_V W12_11 W12_12 W12_13 W2_20 W12_14) rfl ⟨rfl, rfl⟩ (by decide +kernel) rfl ⟨Nat.le_of_ble_eq_true rfl, Nat.le_of_ble_eq_true rfl⟩ (hP.sub [9, 10] rfl) (hD.sub [9, 10] (by decide) rfl) rfl rfl (zj_sub (ws' := wbX2 K aH h10 ++ (wbX7 K aT t0)) hP hD hS hA [9, 10] [0, 1, 2, 3, 4, 5, 6, 7, 8] [0, 1, 2, 3, 4, 5, 6, 7, 8, 9, 10] rfl rfl (by decide) (by decide) (by decide) rfl) hS hl.1 rfl (Nat.le_of_ble_eq_true rfl) dX2_takeLeavers_60 ⟨Nat.zero_le _, Nat.zero_le _⟩ rfl (fun H locs hP hD hS => ?_)
        obtain ⟨hi13, hf⟩ := chk_e hf
        obtain ⟨h14, eh14, hf⟩ := stp_e hf
        refine z_iast (ws' := wbX2 K aH h14 ++ (wbX7 K aT t0)) X hK hP hD hS 5 rfl hi13 dX2_takeLeavers_63 (by rw [eh14]; rfl) (fun H locs hP hD hS => ?_)
        obtain ⟨w15, ew15, hf⟩ := stp_e hf
        refine lv_iinc (v := w15) (lv' := [(2, .int w15), (0, .ref (aH 0)), (1, .ref (aT 0))]) X.1 X.2.1 dX2_takeLeavers_64 hl (k := 2) rfl (by rw [ew15]; rfl) (by decide) rfl (fun ls hl => ?_)
        refine lv_goto (tgt := 15) X.1 X.2.1 dX2_takeLeavers_67 (by decide) ?_
        exact ih _ _ hf _ _ hP hD hS _ (lv_sub hl [1, 2, 0] rfl)
  rw [fX2_takeLeavers] at hf
  refine lv_aload_n X.1 X.2.1 dX2_takeLeavers_0 rfl (lv_at hl 0 rfl) ?_
  refine lv_aload_n X.1 X.2.1 dX2_takeLeavers_1 rfl (lv_at hl 1 rfl) ?_
  obtain ⟨r1, hc2, hf⟩ := bd1_e hf
  refine z_V (n := 0) (As := []) (rest := [.ref (aH 0)]) (ci := 7) (q0 := 0) X hK hN (kX7_parts l D K aT t0 _ r1 hc2) (bw_V W12_2 W12_3 W12_4 W2_20 W12_5) rfl ⟨rfl, rfl⟩ (by decide +kernel) rfl ⟨Nat.le_of_ble_eq_true rfl, Nat.le_of_ble_eq_true rfl⟩ (hP.sub [9, 10] rfl) (hD.sub [9, 10] (by decide) rfl) rfl rfl (zj_sub (ws' := wbX2 K aH h0 ++ (wbX7 K aT t0)) hP hD hS hA [9, 10] [0, 1, 2, 3, 4, 5, 6, 7, 8] [0, 1, 2, 3, 4, 5, 6, 7, 8, 9, 10] rfl rfl (by decide) (by decide) (by decide) rfl) hS hl.1 rfl (Nat.le_of_ble_eq_true rfl) dX2_takeLeavers_2 ⟨Nat.zero_le _, Nat.zero_le _⟩ rfl (fun H locs hP hD hS => ?_)
  refine lv_bipush (v := 8) X.1 X.2.1 dX2_takeLeavers_5 (by decide) ?_
  refine va_mmin X.1 X.2.1 (X.2.2.1.trans hl.1.symm) X.2.2.2.1 (X.2.2.2.2 _ (bw_in W11_22)) (X.2.2.2.2 _ (bw_in W11_23)) (X.2.2.2.2 _ (bw_in W12_0)) (X.2.2.2.2 _ (bw_in W12_1)) (Nat.le_of_ble_eq_true rfl) (Nat.le_of_ble_eq_true rfl) (Nat.zero_le _) (Nat.zero_le _) dX2_takeLeavers_7 ?_
  obtain ⟨h3, eh3, hf⟩ := stp_e hf
  refine z_put (ws' := wbX2 K aH h3 ++ (wbX7 K aT t0)) X hK hP hD hS hiX2 tyX2_ok nmX2 0 rfl rfl 3 (by decide) (bw_in W3_5) rfl rfl rfl (Nat.le_of_ble_eq_true rfl) dX2_takeLeavers_10 (by rw [eh3]; rfl) (fun H locs hP hD hS => ?_)
  refine lv_iconst (v := 0) X.1 X.2.1 dX2_takeLeavers_13 (by decide) ?_
  refine lv_istore_n (lv' := [(2, .int 0), (0, .ref (aH 0)), (1, .ref (aT 0))]) X.1 X.2.1 dX2_takeLeavers_14 rfl hl (by decide) rfl (fun ls hl => ?_)
  exact L15_0  _ _ _ hf _ _ hP hD hS _ (lv_sub hl [1, 2, 0] rfl)
abbrev rmX2_takeRiders : Room := { frames := 3, cells := 0, slots := 0, locals := 66 }
set_option maxHeartbeats 4000000 in
set_option maxRecDepth 100000 in
theorem kX2_takeRiders (l : Launch) (D : va_G) (K : Nat → ClassId) (aH : Nat → Nat) (aT : Nat → Nat) (h0 : St) (t0 : St) (sz : Nat)  (h_ : St) (hf : fX2_takeRiders h0 t0 = some h_) : Met l yX2_takeRiders (bw (Cond.code yX2_takeRiders cX2_takeRiders 3 none)) rmX2_takeRiders (va_Pc [.ref (aH 0), .ref (aT 0)] (zB D K sz (wbX2 K aH h0 ++ (wbX7 K aT t0)))) (zQ (none) D (va_A (wbX2 K aH h0 ++ (wbX7 K aT t0)) sz) (wbX2 K aH h_ ++ (wbX7 K aT t0))) 0 0 (va_A (wbX2 K aH h0 ++ (wbX7 K aT t0)) sz) := by
  refine z_of (cc := cX2_takeRiders) (maxL := 3) (ret := none) (own := RX2) (lv := [(0, .ref (aH 0)), (1, .ref (aT 0))]) (by decide) rfl rfl (Nat.le_of_ble_eq_true rfl) rfl ?_
  intro p e s m below meth c X hr hlk hK hN hsz hP hD hA hS hin ls hl
  generalize va_A (wbX2 K aH h0 ++ (wbX7 K aT t0)) sz = A at hD hA hS hN ⊢
  have hiX2 : ∀ w ∈ u_ws RX2 TX2 14, w ∈ (bw (Cond.code yX2_takeRiders cX2_takeRiders 3 none)) := fun w h => bw_in (inlX2 w h)
  have L36_0 : ∀ (n : Nat), ∀ (n36_0 : Int32) (q36_H : St), fX2_takeRiders_36 t0 n n36_0 q36_H = some h_ → ∀ (H : Heap) (locs : List Loc), va_P D vwCl (wbX2 K aH q36_H ++ (wbX7 K aT t0)) H → va_D A (wbX2 K aH q36_H ++ (wbX7 K aT t0)) → va_S A s.heap H locs → ∀ (ls : Array Slot), lv_has ls 3 [(0, .ref (aH 0)), (1, .ref (aT 0)), (2, .int n36_0)] → W p l e rmX2_takeRiders s m ([.ref (aH 0), .ref (aT 0)] : List Value).toArray below meth c H locs 0 0 (MQ below (zQ (none) D A (wbX2 K aH h_ ++ (wbX7 K aT t0))) ([.ref (aH 0), .ref (aT 0)] : List Value).toArray s 0 0 A) (F0 m 36 ls []) := by
    intro n
    induction n with
    | zero =>
      intro n36_0 q36_H hf
      rw [fX2_takeRiders_36] at hf
      cases hf
    | succ n ih =>
      intro n36_0 q36_H hf H locs hP hD hS ls hl
      rw [fX2_takeRiders_36] at hf
      refine lv_iload_n X.1 X.2.1 dX2_takeRiders_36 rfl (lv_at hl 2 rfl) ?_
      refine lv_aload_n X.1 X.2.1 dX2_takeRiders_37 rfl (lv_at hl 0 rfl) ?_
      refine z_get X hK hP hiX2 0 rfl rfl 2 (by decide) (bw_in W3_4) rfl dX2_takeRiders_38 ?_
      refine lv_icmp_ge (tgt := 125) X.1 X.2.1 dX2_takeRiders_41 (by decide) (fun c11 => ?_) (fun c11 => ?_)
      · have hf := ite_t hf c11
        obtain rfl := z_inj1 hf
        exact z_vret X hr hlk hP hD hS dX2_takeRiders_125
      · have hf := ite_f hf c11
        refine lv_aload_n X.1 X.2.1 dX2_takeRiders_44 rfl (lv_at hl 0 rfl) ?_
        refine z_get X hK hP hiX2 0 rfl rfl 6 (by decide) (bw_in W3_9) rfl dX2_takeRiders_45 ?_
        refine lv_iload_n X.1 X.2.1 dX2_takeRiders_48 rfl (lv_at hl 2 rfl) ?_
        refine lv_aload_n X.1 X.2.1 dX2_takeRiders_49 rfl (lv_at hl 1 rfl) ?_
        refine lv_iconst (v := 4) X.1 X.2.1 dX2_takeRiders_50 (by decide) ?_
        refine lv_iload_n X.1 X.2.1 dX2_takeRiders_51 rfl (lv_at hl 2 rfl) ?_
        refine lv_imul X.1 X.2.1 dX2_takeRiders_52 ?_
        obtain ⟨r12, hc13, hf⟩ := bd1_e hf
        refine z_V (n := 1) (As := [.int ((4 : Int32) * n36_0)]) (rest := [.int n36_0, .ref (aH 7)]) (ci := 7) (q0 := 0) X hK hN (kX7_figure l D K aT t0 _ ((4 : Int32) * n36_0) r12 hc13) (bw_V W12_11 W12_12 W12_13 W2_20 W12_14) rfl ⟨rfl, rfl⟩ (by decide +kernel) rfl ⟨Nat.le_of_ble_eq_true rfl, Nat.le_of_ble_eq_true rfl⟩ (hP.sub [9, 10] rfl) (hD.sub [9, 10] (by decide) rfl) rfl rfl (zj_sub (ws' := wbX2 K aH q36_H ++ (wbX7 K aT t0)) hP hD hS hA [9, 10] [0, 1, 2, 3, 4, 5, 6, 7, 8] [0, 1, 2, 3, 4, 5, 6, 7, 8, 9, 10] rfl rfl (by decide) (by decide) (by decide) rfl) hS hl.1 rfl (Nat.le_of_ble_eq_true rfl) dX2_takeRiders_53 ⟨Nat.zero_le _, Nat.zero_le _⟩ rfl (fun H locs hP hD hS => ?_)
        obtain ⟨hi14, hf⟩ := chk_e hf
        obtain ⟨h15, eh15, hf⟩ := stp_e hf
        refine z_iast (ws' := wbX2 K aH h15 ++ (wbX7 K aT t0)) X hK hP hD hS 1 rfl hi14 dX2_takeRiders_56 (by rw [eh15]; rfl) (fun H locs hP hD hS => ?_)
        refine lv_aload_n X.1 X.2.1 dX2_takeRiders_57 rfl (lv_at hl 0 rfl) ?_
        refine z_get X hK hP hiX2 0 rfl rfl 7 (by decide) (bw_in W3_10) rfl dX2_takeRiders_58 ?_
        refine lv_iload_n X.1 X.2.1 dX2_takeRiders_61 rfl (lv_at hl 2 rfl) ?_
        refine lv_aload_n X.1 X.2.1 dX2_takeRiders_62 rfl (lv_at hl 1 rfl) ?_
        refine lv_iconst (v := 4) X.1 X.2.1 dX2_takeRiders_63 (by decide) ?_
        refine lv_iload_n X.1 X.2.1 dX2_takeRiders_64 rfl (lv_at hl 2 rfl) ?_
        refine lv_imul X.1 X.2.1 dX2_takeRiders_65 ?_
        refine lv_iconst (v := 1) X.1 X.2.1 dX2_takeRiders_66 (by decide) ?_
        refine lv_iadd X.1 X.2.1 dX2_takeRiders_67 ?_
        obtain ⟨r16, hc17, hf⟩ := bd1_e hf
        refine z_V (n := 1) (As := [.int (((4 : Int32) * n36_0) + 1)]) (rest := [.int n36_0, .ref (aH 8)]) (ci := 7) (q0 := 0) X hK hN (kX7_figure l D K aT t0 _ (((4 : Int32) * n36_0) + 1) r16 hc17) (bw_V W12_11 W12_12 W12_13 W2_20 W12_14) rfl ⟨rfl, rfl⟩ (by decide +kernel) rfl ⟨Nat.le_of_ble_eq_true rfl, Nat.le_of_ble_eq_true rfl⟩ (hP.sub [9, 10] rfl) (hD.sub [9, 10] (by decide) rfl) rfl rfl (zj_sub (ws' := wbX2 K aH h15 ++ (wbX7 K aT t0)) hP hD hS hA [9, 10] [0, 1, 2, 3, 4, 5, 6, 7, 8] [0, 1, 2, 3, 4, 5, 6, 7, 8, 9, 10] rfl rfl (by decide) (by decide) (by decide) rfl) hS hl.1 rfl (Nat.le_of_ble_eq_true rfl) dX2_takeRiders_68 ⟨Nat.zero_le _, Nat.zero_le _⟩ rfl (fun H locs hP hD hS => ?_)
        obtain ⟨hi18, hf⟩ := chk_e hf
        obtain ⟨h19, eh19, hf⟩ := stp_e hf
        refine z_iast (ws' := wbX2 K aH h19 ++ (wbX7 K aT t0)) X hK hP hD hS 2 rfl hi18 dX2_takeRiders_71 (by rw [eh19]; rfl) (fun H locs hP hD hS => ?_)
        refine lv_aload_n X.1 X.2.1 dX2_takeRiders_72 rfl (lv_at hl 0 rfl) ?_
        refine z_get X hK hP hiX2 0 rfl rfl 8 (by decide) (bw_in W3_11) rfl dX2_takeRiders_73 ?_
        refine lv_iload_n X.1 X.2.1 dX2_takeRiders_76 rfl (lv_at hl 2 rfl) ?_
        refine lv_aload_n X.1 X.2.1 dX2_takeRiders_77 rfl (lv_at hl 1 rfl) ?_
        refine lv_iconst (v := 4) X.1 X.2.1 dX2_takeRiders_78 (by decide) ?_
        refine lv_iload_n X.1 X.2.1 dX2_takeRiders_79 rfl (lv_at hl 2 rfl) ?_
        refine lv_imul X.1 X.2.1 dX2_takeRiders_80 ?_
        refine lv_iconst (v := 2) X.1 X.2.1 dX2_takeRiders_81 (by decide) ?_
        refine lv_iadd X.1 X.2.1 dX2_takeRiders_82 ?_
        obtain ⟨r20, hc21, hf⟩ := bd1_e hf
        refine z_V (n := 1) (As := [.int (((4 : Int32) * n36_0) + 2)]) (rest := [.int n36_0, .ref (aH 9)]) (ci := 7) (q0 := 0) X hK hN (kX7_figure l D K aT t0 _ (((4 : Int32) * n36_0) + 2) r20 hc21) (bw_V W12_11 W12_12 W12_13 W2_20 W12_14) rfl ⟨rfl, rfl⟩ (by decide +kernel) rfl ⟨Nat.le_of_ble_eq_true rfl, Nat.le_of_ble_eq_true rfl⟩ (hP.sub [9, 10] rfl) (hD.sub [9, 10] (by decide) rfl) rfl rfl (zj_sub (ws' := wbX2 K aH h19 ++ (wbX7 K aT t0)) hP hD hS hA [9, 10] [0, 1, 2, 3, 4, 5, 6, 7, 8] [0, 1, 2, 3, 4, 5, 6, 7, 8, 9, 10] rfl rfl (by decide) (by decide) (by decide) rfl) hS hl.1 rfl (Nat.le_of_ble_eq_true rfl) dX2_takeRiders_83 ⟨Nat.zero_le _, Nat.zero_le _⟩ rfl (fun H locs hP hD hS => ?_)
        obtain ⟨hi22, hf⟩ := chk_e hf
        obtain ⟨h23, eh23, hf⟩ := stp_e hf
        refine z_iast (ws' := wbX2 K aH h23 ++ (wbX7 K aT t0)) X hK hP hD hS 3 rfl hi22 dX2_takeRiders_86 (by rw [eh23]; rfl) (fun H locs hP hD hS => ?_)
        refine lv_aload_n X.1 X.2.1 dX2_takeRiders_87 rfl (lv_at hl 0 rfl) ?_
        refine z_get X hK hP hiX2 0 rfl rfl 7 (by decide) (bw_in W3_10) rfl dX2_takeRiders_88 ?_
        refine lv_iload_n X.1 X.2.1 dX2_takeRiders_91 rfl (lv_at hl 2 rfl) ?_
        obtain ⟨hi25, hf⟩ := chk_e hf
        obtain ⟨v24, ev24, hf⟩ := stp_e hf
        refine z_iald X hK hP 2 rfl hi25 ev24 dX2_takeRiders_92 ?_
        refine lv_aload_n X.1 X.2.1 dX2_takeRiders_93 rfl (lv_at hl 0 rfl) ?_
        refine z_get X hK hP hiX2 0 rfl rfl 8 (by decide) (bw_in W3_11) rfl dX2_takeRiders_94 ?_
        refine lv_iload_n X.1 X.2.1 dX2_takeRiders_97 rfl (lv_at hl 2 rfl) ?_
        obtain ⟨hi27, hf⟩ := chk_e hf
        obtain ⟨v26, ev26, hf⟩ := stp_e hf
        refine z_iald X hK hP 3 rfl hi27 ev26 dX2_takeRiders_98 ?_
        refine lv_icmp_ne (tgt := 114) X.1 X.2.1 dX2_takeRiders_99 (by decide) (fun c28 => ?_) (fun c28 => ?_)
        · have hf := ite_f hf c28
          refine lv_aload_n X.1 X.2.1 dX2_takeRiders_114 rfl (lv_at hl 0 rfl) ?_
          refine lv_iload_n X.1 X.2.1 dX2_takeRiders_115 rfl (lv_at hl 2 rfl) ?_
          obtain ⟨h29, hc30, hf⟩ := bd1_e hf
          refine z_V (n := 1) (As := [.int n36_0]) (rest := []) (ci := 2) (q0 := 0) X hK hN (kX2_noteFloors l D K aH h23 _ n36_0 h29 hc30) (bw_V W12_15 W12_16 W12_17 W1_18 W12_18) rfl ⟨rfl, rfl⟩ (by decide +kernel) rfl ⟨Nat.le_of_ble_eq_true rfl, Nat.le_of_ble_eq_true rfl⟩ (hP.sub [0, 1, 2, 3, 4, 5, 6, 7, 8] rfl) (hD.sub [0, 1, 2, 3, 4, 5, 6, 7, 8] (by decide) rfl) rfl rfl (zj_sub (ws' := wbX2 K aH h29 ++ (wbX7 K aT t0)) hP hD hS hA [0, 1, 2, 3, 4, 5, 6, 7, 8] [9, 10] [2, 3, 4, 5, 6, 7, 8, 9, 10, 0, 1] rfl rfl (by decide) (by decide) (by decide) rfl) hS hl.1 rfl (Nat.le_of_ble_eq_true rfl) dX2_takeRiders_116 ⟨Nat.zero_le _, Nat.zero_le _⟩ rfl (fun H locs hP hD hS => ?_)
          obtain ⟨w31, ew31, hf⟩ := stp_e hf
          refine lv_iinc (v := w31) (lv' := [(2, .int w31), (0, .ref (aH 0)), (1, .ref (aT 0))]) X.1 X.2.1 dX2_takeRiders_119 hl (k := 2) rfl (by rw [ew31]; rfl) (by decide) rfl (fun ls hl => ?_)
          refine lv_goto (tgt := 36) X.1 X.2.1 dX2_takeRiders_122 (by decide) ?_
          exact ih _ _ hf _ _ hP hD hS _ (lv_sub hl [1, 2, 0] rfl)
        · have hf := ite_t hf c28
          refine lv_aload_n X.1 X.2.1 dX2_takeRiders_102 rfl (lv_at hl 0 rfl) ?_
          refine lv_dup X.1 X.2.1 dX2_takeRiders_103 rfl ?_
          refine z_get X hK hP hiX2 0 rfl rfl 5 (by decide) (bw_in W3_7) rfl dX2_takeRiders_104 ?_
          refine lv_iconst (v := 1) X.1 X.2.1 dX2_takeRiders_107 (by decide) ?_
          refine lv_iload_n X.1 X.2.1 dX2_takeRiders_108 rfl (lv_at hl 2 rfl) ?_
          refine lv_ishl X.1 X.2.1 dX2_takeRiders_109 ?_
          refine lv_ior X.1 X.2.1 dX2_takeRiders_110 ?_
          obtain ⟨h32, eh32, hf⟩ := stp_e hf
          refine z_put (ws' := wbX2 K aH h32 ++ (wbX7 K aT t0)) X hK hP hD hS hiX2 tyX2_ok nmX2 0 rfl rfl 5 (by decide) (bw_in W3_7) rfl rfl rfl (Nat.le_of_ble_eq_true rfl) dX2_takeRiders_111 (by rw [eh32]; rfl) (fun H locs hP hD hS => ?_)
          refine lv_aload_n X.1 X.2.1 dX2_takeRiders_114 rfl (lv_at hl 0 rfl) ?_
          refine lv_iload_n X.1 X.2.1 dX2_takeRiders_115 rfl (lv_at hl 2 rfl) ?_
          obtain ⟨h33, hc34, hf⟩ := bd1_e hf
          refine z_V (n := 1) (As := [.int n36_0]) (rest := []) (ci := 2) (q0 := 0) X hK hN (kX2_noteFloors l D K aH h32 _ n36_0 h33 hc34) (bw_V W12_15 W12_16 W12_17 W1_18 W12_18) rfl ⟨rfl, rfl⟩ (by decide +kernel) rfl ⟨Nat.le_of_ble_eq_true rfl, Nat.le_of_ble_eq_true rfl⟩ (hP.sub [0, 1, 2, 3, 4, 5, 6, 7, 8] rfl) (hD.sub [0, 1, 2, 3, 4, 5, 6, 7, 8] (by decide) rfl) rfl rfl (zj_sub (ws' := wbX2 K aH h33 ++ (wbX7 K aT t0)) hP hD hS hA [0, 1, 2, 3, 4, 5, 6, 7, 8] [9, 10] [2, 3, 4, 5, 6, 7, 8, 9, 10, 0, 1] rfl rfl (by decide) (by decide) (by decide) rfl) hS hl.1 rfl (Nat.le_of_ble_eq_true rfl) dX2_takeRiders_116 ⟨Nat.zero_le _, Nat.zero_le _⟩ rfl (fun H locs hP hD hS => ?_)
          obtain ⟨w35, ew35, hf⟩ := stp_e hf
          refine lv_iinc (v := w35) (lv' := [(2, .int w35), (0, .ref (aH 0)), (1, .ref (aT 0))]) X.1 X.2.1 dX2_takeRiders_119 hl (k := 2) rfl (by rw [ew35]; rfl) (by decide) rfl (fun ls hl => ?_)
          refine lv_goto (tgt := 36) X.1 X.2.1 dX2_takeRiders_122 (by decide) ?_
          exact ih _ _ hf _ _ hP hD hS _ (lv_sub hl [1, 2, 0] rfl)
  rw [fX2_takeRiders] at hf
  refine lv_aload_n X.1 X.2.1 dX2_takeRiders_0 rfl (lv_at hl 0 rfl) ?_
  refine lv_aload_n X.1 X.2.1 dX2_takeRiders_1 rfl (lv_at hl 1 rfl) ?_
  obtain ⟨r1, hc2, hf⟩ := bd1_e hf
  refine z_V (n := 0) (As := []) (rest := [.ref (aH 0)]) (ci := 7) (q0 := 0) X hK hN (kX7_parts l D K aT t0 _ r1 hc2) (bw_V W12_2 W12_3 W12_4 W2_20 W12_5) rfl ⟨rfl, rfl⟩ (by decide +kernel) rfl ⟨Nat.le_of_ble_eq_true rfl, Nat.le_of_ble_eq_true rfl⟩ (hP.sub [9, 10] rfl) (hD.sub [9, 10] (by decide) rfl) rfl rfl (zj_sub (ws' := wbX2 K aH h0 ++ (wbX7 K aT t0)) hP hD hS hA [9, 10] [0, 1, 2, 3, 4, 5, 6, 7, 8] [0, 1, 2, 3, 4, 5, 6, 7, 8, 9, 10] rfl rfl (by decide) (by decide) (by decide) rfl) hS hl.1 rfl (Nat.le_of_ble_eq_true rfl) dX2_takeRiders_2 ⟨Nat.zero_le _, Nat.zero_le _⟩ rfl (fun H locs hP hD hS => ?_)
  refine lv_bipush (v := 8) X.1 X.2.1 dX2_takeRiders_5 (by decide) ?_
  refine va_mmin X.1 X.2.1 (X.2.2.1.trans hl.1.symm) X.2.2.2.1 (X.2.2.2.2 _ (bw_in W11_22)) (X.2.2.2.2 _ (bw_in W11_23)) (X.2.2.2.2 _ (bw_in W12_0)) (X.2.2.2.2 _ (bw_in W12_1)) (Nat.le_of_ble_eq_true rfl) (Nat.le_of_ble_eq_true rfl) (Nat.zero_le _) (Nat.zero_le _) dX2_takeRiders_7 ?_
  obtain ⟨h3, eh3, hf⟩ := stp_e hf
  refine z_put (ws' := wbX2 K aH h3 ++ (wbX7 K aT t0)) X hK hP hD hS hiX2 tyX2_ok nmX2 0 rfl rfl 2 (by decide) (bw_in W3_4) rfl rfl rfl (Nat.le_of_ble_eq_true rfl) dX2_takeRiders_10 (by rw [eh3]; rfl) (fun H locs hP hD hS => ?_)
  refine lv_aload_n X.1 X.2.1 dX2_takeRiders_13 rfl (lv_at hl 0 rfl) ?_
  refine lv_iconst (v := 0) X.1 X.2.1 dX2_takeRiders_14 (by decide) ?_
  obtain ⟨h4, eh4, hf⟩ := stp_e hf
  refine z_put (ws' := wbX2 K aH h4 ++ (wbX7 K aT t0)) X hK hP hD hS hiX2 tyX2_ok nmX2 0 rfl rfl 5 (by decide) (bw_in W3_7) rfl rfl rfl (Nat.le_of_ble_eq_true rfl) dX2_takeRiders_15 (by rw [eh4]; rfl) (fun H locs hP hD hS => ?_)
  refine lv_aload_n X.1 X.2.1 dX2_takeRiders_18 rfl (lv_at hl 0 rfl) ?_
  refine z_get X hK hP hiX2 0 rfl rfl 12 (by decide) (bw_in W3_15) rfl dX2_takeRiders_19 ?_
  refine lv_iconst (v := 0) X.1 X.2.1 dX2_takeRiders_22 (by decide) ?_
  obtain ⟨a5, hc6, hf⟩ := bd1_e hf
  obtain ⟨h7, eh7, hf⟩ := stp_e hf
  refine z_S (n := 2) (As := [.ref (aH 13), .int 0]) (rest := []) X hK hN (kJ7_fill_53178 l D K (aH 13) 10 (h4 13) _ 0 a5 hc6) (bw_S W12_7 W12_8 W12_9 W12_10) rfl ⟨rfl, rfl⟩ (by decide +kernel) rfl ⟨Nat.le_of_ble_eq_true rfl, Nat.le_of_ble_eq_true rfl⟩ (hP.sub [7] rfl) (hD.sub [7] (by decide) rfl) (zj_sub (ws' := wbX2 K aH h7 ++ (wbX7 K aT t0)) hP hD hS hA [7] [0, 1, 2, 3, 4, 5, 6, 8, 9, 10] [0, 1, 2, 3, 4, 5, 6, 10, 7, 8, 9] rfl rfl (by decide) (by decide) (by decide) (by rw [eh7]; rfl)) hS hl.1 rfl (Nat.le_of_ble_eq_true rfl) dX2_takeRiders_23 ⟨Nat.zero_le _, Nat.zero_le _⟩ rfl (fun H locs hP hD hS => ?_)
  refine lv_aload_n X.1 X.2.1 dX2_takeRiders_26 rfl (lv_at hl 0 rfl) ?_
  refine z_get X hK hP hiX2 0 rfl rfl 13 (by decide) (bw_in W3_16) rfl dX2_takeRiders_27 ?_
  refine lv_iconst (v := 0) X.1 X.2.1 dX2_takeRiders_30 (by decide) ?_
  obtain ⟨a8, hc9, hf⟩ := bd1_e hf
  obtain ⟨h10, eh10, hf⟩ := stp_e hf
  refine z_S (n := 2) (As := [.ref (aH 14), .int 0]) (rest := []) X hK hN (kJ7_fill_53178 l D K (aH 14) 10 (h7 14) _ 0 a8 hc9) (bw_S W12_7 W12_8 W12_9 W12_10) rfl ⟨rfl, rfl⟩ (by decide +kernel) rfl ⟨Nat.le_of_ble_eq_true rfl, Nat.le_of_ble_eq_true rfl⟩ (hP.sub [8] rfl) (hD.sub [8] (by decide) rfl) (zj_sub (ws' := wbX2 K aH h10 ++ (wbX7 K aT t0)) hP hD hS hA [8] [0, 1, 2, 3, 4, 5, 6, 7, 9, 10] [0, 1, 2, 3, 4, 5, 6, 7, 10, 8, 9] rfl rfl (by decide) (by decide) (by decide) (by rw [eh10]; rfl)) hS hl.1 rfl (Nat.le_of_ble_eq_true rfl) dX2_takeRiders_31 ⟨Nat.zero_le _, Nat.zero_le _⟩ rfl (fun H locs hP hD hS => ?_)
  refine lv_iconst (v := 0) X.1 X.2.1 dX2_takeRiders_34 (by decide) ?_
  refine lv_istore_n (lv' := [(2, .int 0), (0, .ref (aH 0)), (1, .ref (aT 0))]) X.1 X.2.1 dX2_takeRiders_35 rfl hl (by decide) rfl (fun ls hl => ?_)
  exact L36_0  _ _ _ hf _ _ hP hD hS _ (lv_sub hl [1, 2, 0] rfl)
abbrev rmX2_takeStops : Room := { frames := 3, cells := 0, slots := 0, locals := 66 }
set_option maxHeartbeats 4000000 in
set_option maxRecDepth 100000 in
theorem kX2_takeStops (l : Launch) (D : va_G) (K : Nat → ClassId) (aH : Nat → Nat) (aT : Nat → Nat) (h0 : St) (t0 : St) (sz : Nat)  (h_ : St) (hf : fX2_takeStops h0 t0 = some h_) : Met l yX2_takeStops (bw (Cond.code yX2_takeStops cX2_takeStops 3 none)) rmX2_takeStops (va_Pc [.ref (aH 0), .ref (aT 0)] (zB D K sz (wbX2 K aH h0 ++ (wbX7 K aT t0)))) (zQ (none) D (va_A (wbX2 K aH h0 ++ (wbX7 K aT t0)) sz) (wbX2 K aH h_ ++ (wbX7 K aT t0))) 0 0 (va_A (wbX2 K aH h0 ++ (wbX7 K aT t0)) sz) := by
  refine z_of (cc := cX2_takeStops) (maxL := 3) (ret := none) (own := RX2) (lv := [(0, .ref (aH 0)), (1, .ref (aT 0))]) (by decide) rfl rfl (Nat.le_of_ble_eq_true rfl) rfl ?_
  intro p e s m below meth c X hr hlk hK hN hsz hP hD hA hS hin ls hl
  generalize va_A (wbX2 K aH h0 ++ (wbX7 K aT t0)) sz = A at hD hA hS hN ⊢
  have hiX2 : ∀ w ∈ u_ws RX2 TX2 14, w ∈ (bw (Cond.code yX2_takeStops cX2_takeStops 3 none)) := fun w h => bw_in (inlX2 w h)
  have L15_0 : ∀ (n : Nat), ∀ (n15_0 : Int32) (q15_H : St), fX2_takeStops_15 t0 n n15_0 q15_H = some h_ → ∀ (H : Heap) (locs : List Loc), va_P D vwCl (wbX2 K aH q15_H ++ (wbX7 K aT t0)) H → va_D A (wbX2 K aH q15_H ++ (wbX7 K aT t0)) → va_S A s.heap H locs → ∀ (ls : Array Slot), lv_has ls 3 [(0, .ref (aH 0)), (1, .ref (aT 0)), (2, .int n15_0)] → W p l e rmX2_takeStops s m ([.ref (aH 0), .ref (aT 0)] : List Value).toArray below meth c H locs 0 0 (MQ below (zQ (none) D A (wbX2 K aH h_ ++ (wbX7 K aT t0))) ([.ref (aH 0), .ref (aT 0)] : List Value).toArray s 0 0 A) (F0 m 15 ls []) := by
    intro n
    induction n with
    | zero =>
      intro n15_0 q15_H hf
      rw [fX2_takeStops_15] at hf
      cases hf
    | succ n ih =>
      intro n15_0 q15_H hf H locs hP hD hS ls hl
      rw [fX2_takeStops_15] at hf
      refine lv_iload_n X.1 X.2.1 dX2_takeStops_15 rfl (lv_at hl 2 rfl) ?_
      refine lv_aload_n X.1 X.2.1 dX2_takeStops_16 rfl (lv_at hl 0 rfl) ?_
      refine z_get X hK hP hiX2 0 rfl rfl 4 (by decide) (bw_in W3_6) rfl dX2_takeStops_17 ?_
      refine lv_icmp_ge (tgt := 40) X.1 X.2.1 dX2_takeStops_20 (by decide) (fun c4 => ?_) (fun c4 => ?_)
      · have hf := ite_t hf c4
        obtain rfl := z_inj1 hf
        exact z_vret X hr hlk hP hD hS dX2_takeStops_40
      · have hf := ite_f hf c4
        refine lv_aload_n X.1 X.2.1 dX2_takeStops_23 rfl (lv_at hl 0 rfl) ?_
        refine z_get X hK hP hiX2 0 rfl rfl 11 (by decide) (bw_in W3_14) rfl dX2_takeStops_24 ?_
        refine lv_iload_n X.1 X.2.1 dX2_takeStops_27 rfl (lv_at hl 2 rfl) ?_
        refine lv_aload_n X.1 X.2.1 dX2_takeStops_28 rfl (lv_at hl 1 rfl) ?_
        refine lv_iload_n X.1 X.2.1 dX2_takeStops_29 rfl (lv_at hl 2 rfl) ?_
        obtain ⟨r5, hc6, hf⟩ := bd1_e hf
        refine z_V (n := 1) (As := [.int n15_0]) (rest := [.int n15_0, .ref (aH 12)]) (ci := 7) (q0 := 0) X hK hN (kX7_figure l D K aT t0 _ n15_0 r5 hc6) (bw_V W12_11 W12_12 W12_13 W2_20 W12_14) rfl ⟨rfl, rfl⟩ (by decide +kernel) rfl ⟨Nat.le_of_ble_eq_true rfl, Nat.le_of_ble_eq_true rfl⟩ (hP.sub [9, 10] rfl) (hD.sub [9, 10] (by decide) rfl) rfl rfl (zj_sub (ws' := wbX2 K aH q15_H ++ (wbX7 K aT t0)) hP hD hS hA [9, 10] [0, 1, 2, 3, 4, 5, 6, 7, 8] [0, 1, 2, 3, 4, 5, 6, 7, 8, 9, 10] rfl rfl (by decide) (by decide) (by decide) rfl) hS hl.1 rfl (Nat.le_of_ble_eq_true rfl) dX2_takeStops_30 ⟨Nat.zero_le _, Nat.zero_le _⟩ rfl (fun H locs hP hD hS => ?_)
        obtain ⟨hi7, hf⟩ := chk_e hf
        obtain ⟨h8, eh8, hf⟩ := stp_e hf
        refine z_iast (ws' := wbX2 K aH h8 ++ (wbX7 K aT t0)) X hK hP hD hS 6 rfl hi7 dX2_takeStops_33 (by rw [eh8]; rfl) (fun H locs hP hD hS => ?_)
        obtain ⟨w9, ew9, hf⟩ := stp_e hf
        refine lv_iinc (v := w9) (lv' := [(2, .int w9), (0, .ref (aH 0)), (1, .ref (aT 0))]) X.1 X.2.1 dX2_takeStops_34 hl (k := 2) rfl (by rw [ew9]; rfl) (by decide) rfl (fun ls hl => ?_)
        refine lv_goto (tgt := 15) X.1 X.2.1 dX2_takeStops_37 (by decide) ?_
        exact ih _ _ hf _ _ hP hD hS _ (lv_sub hl [1, 2, 0] rfl)
  rw [fX2_takeStops] at hf
  refine lv_aload_n X.1 X.2.1 dX2_takeStops_0 rfl (lv_at hl 0 rfl) ?_
  refine lv_aload_n X.1 X.2.1 dX2_takeStops_1 rfl (lv_at hl 1 rfl) ?_
  obtain ⟨r1, hc2, hf⟩ := bd1_e hf
  refine z_V (n := 0) (As := []) (rest := [.ref (aH 0)]) (ci := 7) (q0 := 0) X hK hN (kX7_parts l D K aT t0 _ r1 hc2) (bw_V W12_2 W12_3 W12_4 W2_20 W12_5) rfl ⟨rfl, rfl⟩ (by decide +kernel) rfl ⟨Nat.le_of_ble_eq_true rfl, Nat.le_of_ble_eq_true rfl⟩ (hP.sub [9, 10] rfl) (hD.sub [9, 10] (by decide) rfl) rfl rfl (zj_sub (ws' := wbX2 K aH h0 ++ (wbX7 K aT t0)) hP hD hS hA [9, 10] [0, 1, 2, 3, 4, 5, 6, 7, 8] [0, 1, 2, 3, 4, 5, 6, 7, 8, 9, 10] rfl rfl (by decide) (by decide) (by decide) rfl) hS hl.1 rfl (Nat.le_of_ble_eq_true rfl) dX2_takeStops_2 ⟨Nat.zero_le _, Nat.zero_le _⟩ rfl (fun H locs hP hD hS => ?_)
  refine lv_bipush (v := 20) X.1 X.2.1 dX2_takeStops_5 (by decide) ?_
  refine va_mmin X.1 X.2.1 (X.2.2.1.trans hl.1.symm) X.2.2.2.1 (X.2.2.2.2 _ (bw_in W11_22)) (X.2.2.2.2 _ (bw_in W11_23)) (X.2.2.2.2 _ (bw_in W12_0)) (X.2.2.2.2 _ (bw_in W12_1)) (Nat.le_of_ble_eq_true rfl) (Nat.le_of_ble_eq_true rfl) (Nat.zero_le _) (Nat.zero_le _) dX2_takeStops_7 ?_
  obtain ⟨h3, eh3, hf⟩ := stp_e hf
  refine z_put (ws' := wbX2 K aH h3 ++ (wbX7 K aT t0)) X hK hP hD hS hiX2 tyX2_ok nmX2 0 rfl rfl 4 (by decide) (bw_in W3_6) rfl rfl rfl (Nat.le_of_ble_eq_true rfl) dX2_takeStops_10 (by rw [eh3]; rfl) (fun H locs hP hD hS => ?_)
  refine lv_iconst (v := 0) X.1 X.2.1 dX2_takeStops_13 (by decide) ?_
  refine lv_istore_n (lv' := [(2, .int 0), (0, .ref (aH 0)), (1, .ref (aT 0))]) X.1 X.2.1 dX2_takeStops_14 rfl hl (by decide) rfl (fun ls hl => ?_)
  exact L15_0  _ _ _ hf _ _ hP hD hS _ (lv_sub hl [1, 2, 0] rfl)
abbrev rmX4_addRow : Room := { frames := 0, cells := 0, slots := 0, locals := 0 }
set_option maxHeartbeats 4000000 in
set_option maxRecDepth 100000 in
theorem kX4_addRow (l : Launch) (D : va_G) (K : Nat → ClassId) (aH : Nat → Nat) (aR : Nat → Nat) (h0 : St) (r0 : St) (sz : Nat) (x1 : Int32) (x2 : Int32) (r_ : St) (hf : fX4_addRow h0 r0 x1 x2 = some r_) : Met l yX4_addRow (bw (Cond.code yX4_addRow cX4_addRow 5 none)) rmX4_addRow (va_Pc [.ref (aR 0), .int x1, .int x2] (zB D K sz (wbX2 K aH h0 ++ (wbX4 K (aH 0) aR r0)))) (zQ (none) D (va_A (wbX2 K aH h0 ++ (wbX4 K (aH 0) aR r0)) sz) (wbX2 K aH h0 ++ (wbX4 K (aH 0) aR r_))) 0 0 (va_A (wbX2 K aH h0 ++ (wbX4 K (aH 0) aR r0)) sz) := by
  refine z_of (cc := cX4_addRow) (maxL := 5) (ret := none) (own := RX4) (lv := [(0, .ref (aR 0)), (1, .int x1), (2, .int x2)]) (by decide) rfl rfl (Nat.le_of_ble_eq_true rfl) rfl ?_
  intro p e s m below meth c X hr hlk hK hN hsz hP hD hA hS hin ls hl
  generalize va_A (wbX2 K aH h0 ++ (wbX4 K (aH 0) aR r0)) sz = A at hD hA hS hN ⊢
  have hiX4 : ∀ w ∈ u_ws RX4 TX4 12, w ∈ (bw (Cond.code yX4_addRow cX4_addRow 5 none)) := fun w h => bw_in (inlX4 w h)
  rw [fX4_addRow] at hf
  refine lv_aload_n X.1 X.2.1 dX4_addRow_0 rfl (lv_at hl 0 rfl) ?_
  refine z_get X hK hP hiX4 9 rfl rfl 9 (by decide) (bw_in W4_5) rfl dX4_addRow_1 ?_
  obtain ⟨w1, ew1, hf⟩ := stp_e hf
  refine z_top ew1 ?_
  refine lv_istore_n (lv' := [(3, .int w1), (0, .ref (aR 0)), (1, .int x1), (2, .int x2)]) X.1 X.2.1 dX4_addRow_4 rfl hl (by decide) rfl (fun ls hl => ?_)
  refine lv_aload_n X.1 X.2.1 dX4_addRow_5 rfl (lv_at hl 1 rfl) ?_
  refine z_get X hK hP hiX4 9 rfl rfl 9 (by decide) (bw_in W4_5) rfl dX4_addRow_6 ?_
  refine lv_iconst (v := 1) X.1 X.2.1 dX4_addRow_9 (by decide) ?_
  refine lv_isub X.1 X.2.1 dX4_addRow_10 ?_
  obtain ⟨w2, ew2, hf⟩ := stp_e hf
  refine z_top ew2 ?_
  refine lv_istore (lv' := [(4, .int w2), (3, .int w1), (0, .ref (aR 0)), (1, .int x1), (2, .int x2)]) X.1 X.2.1 dX4_addRow_11 hl (by decide) rfl (fun ls hl => ?_)
  refine lv_aload_n X.1 X.2.1 dX4_addRow_13 rfl (lv_at hl 2 rfl) ?_
  refine z_get X hK hP hiX4 9 rfl rfl 1 (by decide) (bw_in W3_21) rfl dX4_addRow_14 ?_
  refine lv_iload_n X.1 X.2.1 dX4_addRow_17 rfl (lv_at hl 1 rfl) ?_
  refine lv_iload_n X.1 X.2.1 dX4_addRow_18 rfl (lv_at hl 3 rfl) ?_
  obtain ⟨hi3, hf⟩ := chk_e hf
  obtain ⟨r4, er4, hf⟩ := stp_e hf
  refine z_iast (ws' := wbX2 K aH h0 ++ (wbX4 K (aH 0) aR r4)) X hK hP hD hS 10 rfl hi3 dX4_addRow_19 (by rw [er4]; rfl) (fun H locs hP hD hS => ?_)
  refine lv_aload_n X.1 X.2.1 dX4_addRow_20 rfl (lv_at hl 2 rfl) ?_
  refine z_get X hK hP hiX4 9 rfl rfl 2 (by decide) (bw_in W3_22) rfl dX4_addRow_21 ?_
  refine lv_iload_n X.1 X.2.1 dX4_addRow_24 rfl (lv_at hl 1 rfl) ?_
  refine lv_iload_n X.1 X.2.1 dX4_addRow_25 rfl (lv_at hl 4 rfl) ?_
  obtain ⟨hi5, hf⟩ := chk_e hf
  obtain ⟨r6, er6, hf⟩ := stp_e hf
  refine z_iast (ws' := wbX2 K aH h0 ++ (wbX4 K (aH 0) aR r6)) X hK hP hD hS 11 rfl hi5 dX4_addRow_26 (by rw [er6]; rfl) (fun H locs hP hD hS => ?_)
  refine lv_aload_n X.1 X.2.1 dX4_addRow_27 rfl (lv_at hl 2 rfl) ?_
  refine z_get X hK hP hiX4 9 rfl rfl 3 (by decide) (bw_in W3_23) rfl dX4_addRow_28 ?_
  refine lv_iload_n X.1 X.2.1 dX4_addRow_31 rfl (lv_at hl 1 rfl) ?_
  refine lv_aload_n X.1 X.2.1 dX4_addRow_32 rfl (lv_at hl 2 rfl) ?_
  refine z_get X hK hP hiX4 9 rfl rfl 3 (by decide) (bw_in W3_23) rfl dX4_addRow_33 ?_
  refine lv_iload X.1 X.2.1 dX4_addRow_36 (lv_at hl 0 rfl) ?_
  obtain ⟨hi8, hf⟩ := chk_e hf
  obtain ⟨v7, ev7, hf⟩ := stp_e hf
  refine z_iald X hK hP 12 rfl hi8 ev7 dX4_addRow_38 ?_
  obtain ⟨hi9, hf⟩ := chk_e hf
  obtain ⟨r10, er10, hf⟩ := stp_e hf
  refine z_iast (ws' := wbX2 K aH h0 ++ (wbX4 K (aH 0) aR r10)) X hK hP hD hS 12 rfl hi9 dX4_addRow_39 (by rw [er10]; rfl) (fun H locs hP hD hS => ?_)
  refine lv_aload_n X.1 X.2.1 dX4_addRow_40 rfl (lv_at hl 2 rfl) ?_
  refine z_get X hK hP hiX4 9 rfl rfl 4 (by decide) (bw_in W4_0) rfl dX4_addRow_41 ?_
  refine lv_iload_n X.1 X.2.1 dX4_addRow_44 rfl (lv_at hl 1 rfl) ?_
  refine lv_aload_n X.1 X.2.1 dX4_addRow_45 rfl (lv_at hl 2 rfl) ?_
  refine z_get X hK hP hiX4 9 rfl rfl 4 (by decide) (bw_in W4_0) rfl dX4_addRow_46 ?_
  refine lv_iload X.1 X.2.1 dX4_addRow_49 (lv_at hl 0 rfl) ?_
  obtain ⟨hi12, hf⟩ := chk_e hf
  obtain ⟨v11, ev11, hf⟩ := stp_e hf
  refine z_iald X hK hP 13 rfl hi12 ev11 dX4_addRow_51 ?_
  obtain ⟨hi13, hf⟩ := chk_e hf
  obtain ⟨r14, er14, hf⟩ := stp_e hf
  refine z_iast (ws' := wbX2 K aH h0 ++ (wbX4 K (aH 0) aR r14)) X hK hP hD hS 13 rfl hi13 dX4_addRow_52 (by rw [er14]; rfl) (fun H locs hP hD hS => ?_)
  refine lv_aload_n X.1 X.2.1 dX4_addRow_53 rfl (lv_at hl 2 rfl) ?_
  refine z_get X hK hP hiX4 9 rfl rfl 5 (by decide) (bw_in W4_1) rfl dX4_addRow_54 ?_
  refine lv_iload_n X.1 X.2.1 dX4_addRow_57 rfl (lv_at hl 1 rfl) ?_
  refine lv_aload_n X.1 X.2.1 dX4_addRow_58 rfl (lv_at hl 2 rfl) ?_
  refine z_get X hK hP hiX4 9 rfl rfl 5 (by decide) (bw_in W4_1) rfl dX4_addRow_59 ?_
  refine lv_iload X.1 X.2.1 dX4_addRow_62 (lv_at hl 0 rfl) ?_
  obtain ⟨hi16, hf⟩ := chk_e hf
  obtain ⟨v15, ev15, hf⟩ := stp_e hf
  refine z_iald X hK hP 14 rfl hi16 ev15 dX4_addRow_64 ?_
  obtain ⟨hi17, hf⟩ := chk_e hf
  obtain ⟨r18, er18, hf⟩ := stp_e hf
  refine z_iast (ws' := wbX2 K aH h0 ++ (wbX4 K (aH 0) aR r18)) X hK hP hD hS 14 rfl hi17 dX4_addRow_65 (by rw [er18]; rfl) (fun H locs hP hD hS => ?_)
  refine lv_aload_n X.1 X.2.1 dX4_addRow_66 rfl (lv_at hl 2 rfl) ?_
  refine z_get X hK hP hiX4 9 rfl rfl 6 (by decide) (bw_in W4_2) rfl dX4_addRow_67 ?_
  refine lv_iload_n X.1 X.2.1 dX4_addRow_70 rfl (lv_at hl 1 rfl) ?_
  refine lv_aload_n X.1 X.2.1 dX4_addRow_71 rfl (lv_at hl 2 rfl) ?_
  refine z_get X hK hP hiX4 9 rfl rfl 6 (by decide) (bw_in W4_2) rfl dX4_addRow_72 ?_
  refine lv_iload X.1 X.2.1 dX4_addRow_75 (lv_at hl 0 rfl) ?_
  obtain ⟨hi20, hf⟩ := chk_e hf
  obtain ⟨v19, ev19, hf⟩ := stp_e hf
  refine z_iald X hK hP 15 rfl hi20 ev19 dX4_addRow_77 ?_
  obtain ⟨hi21, hf⟩ := chk_e hf
  obtain ⟨r22, er22, hf⟩ := stp_e hf
  refine z_iast (ws' := wbX2 K aH h0 ++ (wbX4 K (aH 0) aR r22)) X hK hP hD hS 15 rfl hi21 dX4_addRow_78 (by rw [er22]; rfl) (fun H locs hP hD hS => ?_)
  refine lv_aload_n X.1 X.2.1 dX4_addRow_79 rfl (lv_at hl 2 rfl) ?_
  refine z_get X hK hP hiX4 9 rfl rfl 7 (by decide) (bw_in W4_3) rfl dX4_addRow_80 ?_
  refine lv_iload_n X.1 X.2.1 dX4_addRow_83 rfl (lv_at hl 1 rfl) ?_
  refine lv_aload_n X.1 X.2.1 dX4_addRow_84 rfl (lv_at hl 2 rfl) ?_
  refine z_get X hK hP hiX4 9 rfl rfl 7 (by decide) (bw_in W4_3) rfl dX4_addRow_85 ?_
  refine lv_iload X.1 X.2.1 dX4_addRow_88 (lv_at hl 0 rfl) ?_
  obtain ⟨hi24, hf⟩ := chk_e hf
  obtain ⟨v23, ev23, hf⟩ := stp_e hf
  refine z_iald X hK hP 16 rfl hi24 ev23 dX4_addRow_90 ?_
  obtain ⟨hi25, hf⟩ := chk_e hf
  obtain ⟨r26, er26, hf⟩ := stp_e hf
  refine z_iast (ws' := wbX2 K aH h0 ++ (wbX4 K (aH 0) aR r26)) X hK hP hD hS 16 rfl hi25 dX4_addRow_91 (by rw [er26]; rfl) (fun H locs hP hD hS => ?_)
  refine lv_aload_n X.1 X.2.1 dX4_addRow_92 rfl (lv_at hl 2 rfl) ?_
  refine z_get X hK hP hiX4 9 rfl rfl 8 (by decide) (bw_in W4_4) rfl dX4_addRow_93 ?_
  refine lv_iload_n X.1 X.2.1 dX4_addRow_96 rfl (lv_at hl 1 rfl) ?_
  refine lv_iconst (v := 0) X.1 X.2.1 dX4_addRow_97 (by decide) ?_
  obtain ⟨hi27, hf⟩ := chk_e hf
  obtain ⟨r28, er28, hf⟩ := stp_e hf
  refine z_iast (ws' := wbX2 K aH h0 ++ (wbX4 K (aH 0) aR r28)) X hK hP hD hS 17 rfl hi27 dX4_addRow_98 (by rw [er28]; rfl) (fun H locs hP hD hS => ?_)
  refine lv_aload_n X.1 X.2.1 dX4_addRow_99 rfl (lv_at hl 2 rfl) ?_
  refine lv_dup X.1 X.2.1 dX4_addRow_100 rfl ?_
  refine z_get X hK hP hiX4 9 rfl rfl 9 (by decide) (bw_in W4_5) rfl dX4_addRow_101 ?_
  refine lv_iconst (v := 1) X.1 X.2.1 dX4_addRow_104 (by decide) ?_
  refine lv_iadd X.1 X.2.1 dX4_addRow_105 ?_
  obtain ⟨r29, er29, hf⟩ := stp_e hf
  refine z_put (ws' := wbX2 K aH h0 ++ (wbX4 K (aH 0) aR r29)) X hK hP hD hS hiX4 tyX4_ok nmX4 9 rfl rfl 9 (by decide) (bw_in W4_5) rfl rfl rfl (Nat.le_of_ble_eq_true rfl) dX4_addRow_106 (by rw [er29]; rfl) (fun H locs hP hD hS => ?_)
  obtain rfl := z_inj1 hf
  exact z_vret X hr hlk hP hD hS dX4_addRow_109
abbrev rmX4_howManyArrived : Room := { frames := 1, cells := 0, slots := 0, locals := 20 }
set_option maxHeartbeats 4000000 in
set_option maxRecDepth 100000 in
theorem kX4_howManyArrived (l : Launch) (D : va_G) (K : Nat → ClassId) (aH : Nat → Nat) (aR : Nat → Nat) (h0 : St) (r0 : St) (sz : Nat)  (q_ : Int32) (hf : fX4_howManyArrived h0 r0 = some q_) : Met l yX4_howManyArrived (bw (Cond.code yX4_howManyArrived cX4_howManyArrived 1 (some .int))) rmX4_howManyArrived (va_Pc [.ref (aR 0)] (zB D K sz (wbX2 K aH h0 ++ (wbX4 K (aH 0) aR r0)))) (zQ (some (.int q_)) D (va_A (wbX2 K aH h0 ++ (wbX4 K (aH 0) aR r0)) sz) (wbX2 K aH h0 ++ (wbX4 K (aH 0) aR r0))) 0 0 (va_A (wbX2 K aH h0 ++ (wbX4 K (aH 0) aR r0)) sz) := by
  refine z_of (cc := cX4_howManyArrived) (maxL := 1) (ret := (some .int)) (own := RX4) (lv := [(0, .ref (aR 0))]) (by decide) rfl rfl (Nat.le_of_ble_eq_true rfl) rfl ?_
  intro p e s m below meth c X hr hlk hK hN hsz hP hD hA hS hin ls hl
  generalize va_A (wbX2 K aH h0 ++ (wbX4 K (aH 0) aR r0)) sz = A at hD hA hS hN ⊢
  have hiX4 : ∀ w ∈ u_ws RX4 TX4 12, w ∈ (bw (Cond.code yX4_howManyArrived cX4_howManyArrived 1 (some .int))) := fun w h => bw_in (inlX4 w h)
  rw [fX4_howManyArrived] at hf
  refine lv_aload_n X.1 X.2.1 dX4_howManyArrived_0 rfl (lv_at hl 0 rfl) ?_
  refine z_get X hK hP hiX4 9 rfl rfl 7 (by decide) (bw_in W4_3) rfl dX4_howManyArrived_1 ?_
  refine lv_aload_n X.1 X.2.1 dX4_howManyArrived_4 rfl (lv_at hl 0 rfl) ?_
  refine z_get X hK hP hiX4 9 rfl rfl 9 (by decide) (bw_in W4_5) rfl dX4_howManyArrived_5 ?_
  refine lv_iconst (v := 1) X.1 X.2.1 dX4_howManyArrived_8 (by decide) ?_
  refine lv_isub X.1 X.2.1 dX4_howManyArrived_9 ?_
  obtain ⟨hi2, hf⟩ := chk_e hf
  obtain ⟨v1, ev1, hf⟩ := stp_e hf
  refine z_iald X hK hP 16 rfl hi2 ev1 dX4_howManyArrived_10 ?_
  obtain ⟨r3, hc4, hf⟩ := bd1_e hf
  refine z_S (n := 1) (As := [.int v1]) (rest := []) X hK hN (kJ6_bitCount_0f7a4 l D K _ v1 r3 hc4) (bw_S W27_14 W27_15 W27_16 W27_17) rfl ⟨rfl, rfl⟩ (by decide +kernel) rfl ⟨Nat.le_of_ble_eq_true rfl, Nat.le_of_ble_eq_true rfl⟩ (fun _ _ h => by simp at h) ⟨fun _ _ _ _ h => by simp at h, fun _ _ h => by simp at h⟩ (zj_none hP hD hS hA) hS hl.1 rfl (Nat.le_of_ble_eq_true rfl) dX4_howManyArrived_11 ⟨Nat.zero_le _, Nat.zero_le _⟩ rfl (fun H locs hP hD hS => ?_)
  obtain rfl := z_inj1 hf
  exact z_iret X hr hlk hP hD hS dX4_howManyArrived_14
abbrev rmX4_allArrived : Room := { frames := 2, cells := 0, slots := 0, locals := 40 }
set_option maxHeartbeats 4000000 in
set_option maxRecDepth 100000 in
theorem kX4_allArrived (l : Launch) (D : va_G) (K : Nat → ClassId) (aH : Nat → Nat) (aR : Nat → Nat) (h0 : St) (r0 : St) (sz : Nat)  (q_ : Int32) (hf : fX4_allArrived h0 r0 = some q_) : Met l yX4_allArrived (bw (Cond.code yX4_allArrived cX4_allArrived 1 (some .boolean))) rmX4_allArrived (va_Pc [.ref (aR 0)] (zB D K sz (wbX2 K aH h0 ++ (wbX4 K (aH 0) aR r0)))) (zQ (some (.int q_)) D (va_A (wbX2 K aH h0 ++ (wbX4 K (aH 0) aR r0)) sz) (wbX2 K aH h0 ++ (wbX4 K (aH 0) aR r0))) 0 0 (va_A (wbX2 K aH h0 ++ (wbX4 K (aH 0) aR r0)) sz) := by
  refine z_of (cc := cX4_allArrived) (maxL := 1) (ret := (some .boolean)) (own := RX4) (lv := [(0, .ref (aR 0))]) (by decide) rfl rfl (Nat.le_of_ble_eq_true rfl) rfl ?_
  intro p e s m below meth c X hr hlk hK hN hsz hP hD hA hS hin ls hl
  generalize va_A (wbX2 K aH h0 ++ (wbX4 K (aH 0) aR r0)) sz = A at hD hA hS hN ⊢
  have hiX2 : ∀ w ∈ u_ws RX2 TX2 14, w ∈ (bw (Cond.code yX4_allArrived cX4_allArrived 1 (some .boolean))) := fun w h => bw_in (inlX2 w h)
  have hiX4 : ∀ w ∈ u_ws RX4 TX4 12, w ∈ (bw (Cond.code yX4_allArrived cX4_allArrived 1 (some .boolean))) := fun w h => bw_in (inlX4 w h)
  rw [fX4_allArrived] at hf
  refine lv_aload_n X.1 X.2.1 dX4_allArrived_0 rfl (lv_at hl 0 rfl) ?_
  obtain ⟨r1, hc2, hf⟩ := bd1_e hf
  refine z_V (n := 0) (As := []) (rest := []) (ci := 4) (q0 := 9) X hK hN (kX4_howManyArrived l D K aH aR h0 r0 _ r1 hc2) (bw_V W27_10 W27_11 W27_12 W1_22 W27_13) rfl ⟨rfl, rfl⟩ (by decide +kernel) rfl ⟨Nat.le_of_ble_eq_true rfl, Nat.le_of_ble_eq_true rfl⟩ hP hD rfl rfl (zj_same hD hS hA) hS hl.1 rfl (Nat.le_of_ble_eq_true rfl) dX4_allArrived_1 ⟨Nat.zero_le _, Nat.zero_le _⟩ rfl (fun H locs hP hD hS => ?_)
  refine lv_aload_n X.1 X.2.1 dX4_allArrived_4 rfl (lv_at hl 0 rfl) ?_
  refine z_get X hK hP hiX4 9 rfl rfl 0 (by decide) (bw_in W4_8) rfl dX4_allArrived_5 ?_
  refine z_get X hK hP hiX2 0 rfl rfl 2 (by decide) (bw_in W13_20) rfl dX4_allArrived_8 ?_
  refine lv_icmp_ne (tgt := 18) X.1 X.2.1 dX4_allArrived_11 (by decide) (fun c3 => ?_) (fun c3 => ?_)
  · have hf := ite_f hf c3
    refine lv_iconst (v := 0) X.1 X.2.1 dX4_allArrived_18 (by decide) ?_
    obtain rfl := z_inj1 hf
    exact z_zret X hr hlk (by decide) hP hD hS dX4_allArrived_19
  · have hf := ite_t hf c3
    refine lv_iconst (v := 1) X.1 X.2.1 dX4_allArrived_14 (by decide) ?_
    refine lv_goto (tgt := 19) X.1 X.2.1 dX4_allArrived_15 (by decide) ?_
    obtain rfl := z_inj1 hf
    exact z_zret X hr hlk (by decide) hP hD hS dX4_allArrived_19
abbrev rmX8_has : Room := { frames := 0, cells := 0, slots := 0, locals := 0 }
set_option maxHeartbeats 4000000 in
set_option maxRecDepth 100000 in
theorem kX8_has (l : Launch) (D : va_G) (K : Nat → ClassId)   (sz : Nat) (x1 : Int32) (x2 : Int32) (q_ : Int32) (hf : fX8_has x1 x2 = some q_) : Met l yX8_has (bw (Cond.code yX8_has cX8_has 2 (some .boolean))) rmX8_has (va_Pc [.int x1, .int x2] (zB D K sz (([] : va_W)))) (zQ (some (.int q_)) D (va_A (([] : va_W)) sz) (([] : va_W))) 0 0 (va_A (([] : va_W)) sz) := by
  refine z_of (cc := cX8_has) (maxL := 2) (ret := (some .boolean)) (own := RX8) (lv := [(0, .int x1), (1, .int x2)]) (by decide) rfl rfl (Nat.le_of_ble_eq_true rfl) rfl ?_
  intro p e s m below meth c X hr hlk hK hN hsz hP hD hA hS hin ls hl
  generalize va_A (([] : va_W)) sz = A at hD hA hS hN ⊢
  rw [fX8_has] at hf
  refine lv_iload_n X.1 X.2.1 dX8_has_0 rfl (lv_at hl 0 rfl) ?_
  refine lv_iload_n X.1 X.2.1 dX8_has_1 rfl (lv_at hl 1 rfl) ?_
  refine lv_ishr X.1 X.2.1 dX8_has_2 ?_
  refine lv_iconst (v := 1) X.1 X.2.1 dX8_has_3 (by decide) ?_
  refine lv_iand X.1 X.2.1 dX8_has_4 ?_
  refine lv_if_eq (tgt := 12) X.1 X.2.1 dX8_has_5 (by decide) (fun c1 => ?_) (fun c1 => ?_)
  · have hf := ite_t hf c1
    refine lv_iconst (v := 0) X.1 X.2.1 dX8_has_12 (by decide) ?_
    obtain rfl := z_inj1 hf
    exact z_zret X hr hlk (by decide) hP hD hS dX8_has_13
  · have hf := ite_f hf c1
    refine lv_iconst (v := 1) X.1 X.2.1 dX8_has_8 (by decide) ?_
    refine lv_goto (tgt := 13) X.1 X.2.1 dX8_has_9 (by decide) ?_
    obtain rfl := z_inj1 hf
    exact z_zret X hr hlk (by decide) hP hD hS dX8_has_13
abbrev rmX4_arrivesBehind : Room := { frames := 1, cells := 0, slots := 0, locals := 21 }
set_option maxHeartbeats 4000000 in
set_option maxRecDepth 100000 in
theorem kX4_arrivesBehind (l : Launch) (D : va_G) (K : Nat → ClassId) (aH : Nat → Nat) (aR : Nat → Nat) (h0 : St) (r0 : St) (sz : Nat) (x1 : Int32) (q_ : Int32) (hf : fX4_arrivesBehind h0 r0 x1 = some q_) : Met l yX4_arrivesBehind (bw (Cond.code yX4_arrivesBehind cX4_arrivesBehind 3 (some .int))) rmX4_arrivesBehind (va_Pc [.ref (aR 0), .int x1] (zB D K sz (wbX2 K aH h0 ++ (wbX4 K (aH 0) aR r0)))) (zQ (some (.int q_)) D (va_A (wbX2 K aH h0 ++ (wbX4 K (aH 0) aR r0)) sz) (wbX2 K aH h0 ++ (wbX4 K (aH 0) aR r0))) 0 0 (va_A (wbX2 K aH h0 ++ (wbX4 K (aH 0) aR r0)) sz) := by
  refine z_of (cc := cX4_arrivesBehind) (maxL := 3) (ret := (some .int)) (own := RX4) (lv := [(0, .ref (aR 0)), (1, .int x1)]) (by decide) rfl rfl (Nat.le_of_ble_eq_true rfl) rfl ?_
  intro p e s m below meth c X hr hlk hK hN hsz hP hD hA hS hin ls hl
  generalize va_A (wbX2 K aH h0 ++ (wbX4 K (aH 0) aR r0)) sz = A at hD hA hS hN ⊢
  have hiX4 : ∀ w ∈ u_ws RX4 TX4 12, w ∈ (bw (Cond.code yX4_arrivesBehind cX4_arrivesBehind 3 (some .int))) := fun w h => bw_in (inlX4 w h)
  have L2_0 : ∀ (n : Nat), ∀ (n2_0 : Int32) (n2_1 : Int32) , fX4_arrivesBehind_2 h0 r0 n n2_0 n2_1 = some q_ → ∀ (H : Heap) (locs : List Loc), va_P D vwCl (wbX2 K aH h0 ++ (wbX4 K (aH 0) aR r0)) H → va_D A (wbX2 K aH h0 ++ (wbX4 K (aH 0) aR r0)) → va_S A s.heap H locs → ∀ (ls : Array Slot), lv_has ls 3 [(0, .ref (aR 0)), (1, .int n2_0), (2, .int n2_1)] → W p l e rmX4_arrivesBehind s m ([.ref (aR 0), .int x1] : List Value).toArray below meth c H locs 0 0 (MQ below (zQ (some (.int q_)) D A (wbX2 K aH h0 ++ (wbX4 K (aH 0) aR r0))) ([.ref (aR 0), .int x1] : List Value).toArray s 0 0 A) (F0 m 2 ls []) := by
    intro n
    induction n with
    | zero =>
      intro n2_0 n2_1  hf
      rw [fX4_arrivesBehind_2] at hf
      cases hf
    | succ n ih =>
      intro n2_0 n2_1  hf H locs hP hD hS ls hl
      rw [fX4_arrivesBehind_2] at hf
      refine lv_iload_n X.1 X.2.1 dX4_arrivesBehind_2 rfl (lv_at hl 2 rfl) ?_
      refine lv_aload_n X.1 X.2.1 dX4_arrivesBehind_3 rfl (lv_at hl 0 rfl) ?_
      refine z_get X hK hP hiX4 9 rfl rfl 9 (by decide) (bw_in W4_5) rfl dX4_arrivesBehind_4 ?_
      refine lv_icmp_ge (tgt := 36) X.1 X.2.1 dX4_arrivesBehind_7 (by decide) (fun c1 => ?_) (fun c1 => ?_)
      · have hf := ite_t hf c1
        refine lv_iconst (v := -1) X.1 X.2.1 dX4_arrivesBehind_36 (by decide) ?_
        obtain rfl := z_inj1 hf
        exact z_iret X hr hlk hP hD hS dX4_arrivesBehind_37
      · have hf := ite_f hf c1
        refine lv_aload_n X.1 X.2.1 dX4_arrivesBehind_10 rfl (lv_at hl 0 rfl) ?_
        refine z_get X hK hP hiX4 9 rfl rfl 7 (by decide) (bw_in W4_3) rfl dX4_arrivesBehind_11 ?_
        refine lv_iload_n X.1 X.2.1 dX4_arrivesBehind_14 rfl (lv_at hl 2 rfl) ?_
        obtain ⟨hi3, hf⟩ := chk_e hf
        obtain ⟨v2, ev2, hf⟩ := stp_e hf
        refine z_iald X hK hP 16 rfl hi3 ev2 dX4_arrivesBehind_15 ?_
        refine lv_iload_n X.1 X.2.1 dX4_arrivesBehind_16 rfl (lv_at hl 1 rfl) ?_
        obtain ⟨r4, hc5, hf⟩ := bd1_e hf
        refine z_SN (n := 2) (As := [.int v2, .int n2_0]) (rest := []) (host := "LeaversFloor") X hK hN (kX8_has l D K _ v2 n2_0 r4 hc5) (bw_G W13_15) (by decide) (bw_in W1_2) (bw_in W13_14) rfl ⟨rfl, rfl⟩ (by decide +kernel) rfl ⟨Nat.le_of_ble_eq_true rfl, Nat.le_of_ble_eq_true rfl⟩ (fun _ _ h => by simp at h) ⟨fun _ _ _ _ h => by simp at h, fun _ _ h => by simp at h⟩ (zj_none hP hD hS hA) hS hl.1 rfl (Nat.le_of_ble_eq_true rfl) dX4_arrivesBehind_17 ⟨Nat.zero_le _, Nat.zero_le _⟩ rfl (fun H locs hP hD hS => ?_)
        refine lv_if_eq (tgt := 30) X.1 X.2.1 dX4_arrivesBehind_20 (by decide) (fun c6 => ?_) (fun c6 => ?_)
        · have hf := ite_t hf c6
          obtain ⟨w7, ew7, hf⟩ := stp_e hf
          refine lv_iinc (v := w7) (lv' := [(2, .int w7), (0, .ref (aR 0)), (1, .int n2_0)]) X.1 X.2.1 dX4_arrivesBehind_30 hl (k := 2) rfl (by rw [ew7]; rfl) (by decide) rfl (fun ls hl => ?_)
          refine lv_goto (tgt := 2) X.1 X.2.1 dX4_arrivesBehind_33 (by decide) ?_
          exact ih _ _ hf _ _ hP hD hS _ (lv_sub hl [1, 2, 0] rfl)
        · have hf := ite_f hf c6
          refine lv_aload_n X.1 X.2.1 dX4_arrivesBehind_23 rfl (lv_at hl 0 rfl) ?_
          refine z_get X hK hP hiX4 9 rfl rfl 1 (by decide) (bw_in W3_21) rfl dX4_arrivesBehind_24 ?_
          refine lv_iload_n X.1 X.2.1 dX4_arrivesBehind_27 rfl (lv_at hl 2 rfl) ?_
          obtain ⟨hi9, hf⟩ := chk_e hf
          obtain ⟨v8, ev8, hf⟩ := stp_e hf
          refine z_iald X hK hP 10 rfl hi9 ev8 dX4_arrivesBehind_28 ?_
          obtain rfl := z_inj1 hf
          exact z_iret X hr hlk hP hD hS dX4_arrivesBehind_29
  rw [fX4_arrivesBehind] at hf
  refine lv_iconst (v := 0) X.1 X.2.1 dX4_arrivesBehind_0 (by decide) ?_
  refine lv_istore_n (lv' := [(2, .int 0), (0, .ref (aR 0)), (1, .int x1)]) X.1 X.2.1 dX4_arrivesBehind_1 rfl hl (by decide) rfl (fun ls hl => ?_)
  exact L2_0  _ _ _ hf _ _ hP hD hS _ (lv_sub hl [1, 2, 0] rfl)
abbrev rmX4_leavesAs : Room := { frames := 0, cells := 0, slots := 0, locals := 0 }
set_option maxHeartbeats 4000000 in
set_option maxRecDepth 100000 in
theorem kX4_leavesAs (l : Launch) (D : va_G) (K : Nat → ClassId) (aH : Nat → Nat) (aR : Nat → Nat) (h0 : St) (r0 : St) (sz : Nat) (x1 : Int32) (x2 : Int32) (r_ : St) (hf : fX4_leavesAs h0 r0 x1 x2 = some r_) : Met l yX4_leavesAs (bw (Cond.code yX4_leavesAs cX4_leavesAs 3 none)) rmX4_leavesAs (va_Pc [.ref (aR 0), .int x1, .int x2] (zB D K sz (wbX2 K aH h0 ++ (wbX4 K (aH 0) aR r0)))) (zQ (none) D (va_A (wbX2 K aH h0 ++ (wbX4 K (aH 0) aR r0)) sz) (wbX2 K aH h0 ++ (wbX4 K (aH 0) aR r_))) 0 0 (va_A (wbX2 K aH h0 ++ (wbX4 K (aH 0) aR r0)) sz) := by
  refine z_of (cc := cX4_leavesAs) (maxL := 3) (ret := none) (own := RX4) (lv := [(0, .ref (aR 0)), (1, .int x1), (2, .int x2)]) (by decide) rfl rfl (Nat.le_of_ble_eq_true rfl) rfl ?_
  intro p e s m below meth c X hr hlk hK hN hsz hP hD hA hS hin ls hl
  generalize va_A (wbX2 K aH h0 ++ (wbX4 K (aH 0) aR r0)) sz = A at hD hA hS hN ⊢
  have hiX2 : ∀ w ∈ u_ws RX2 TX2 14, w ∈ (bw (Cond.code yX4_leavesAs cX4_leavesAs 3 none)) := fun w h => bw_in (inlX2 w h)
  have hiX4 : ∀ w ∈ u_ws RX4 TX4 12, w ∈ (bw (Cond.code yX4_leavesAs cX4_leavesAs 3 none)) := fun w h => bw_in (inlX4 w h)
  rw [fX4_leavesAs] at hf
  refine lv_iload_n X.1 X.2.1 dX4_leavesAs_0 rfl (lv_at hl 1 rfl) ?_
  refine lv_if_lt (tgt := 10) X.1 X.2.1 dX4_leavesAs_1 (by decide) (fun c1 => ?_) (fun c1 => ?_)
  · have hf := ite_t hf c1
    obtain rfl := z_inj1 hf
    exact z_vret X hr hlk hP hD hS dX4_leavesAs_10
  · have hf := ite_f hf c1
    refine lv_iload_n X.1 X.2.1 dX4_leavesAs_4 rfl (lv_at hl 1 rfl) ?_
    refine lv_bipush (v := 8) X.1 X.2.1 dX4_leavesAs_5 (by decide) ?_
    refine lv_icmp_lt (tgt := 11) X.1 X.2.1 dX4_leavesAs_7 (by decide) (fun c2 => ?_) (fun c2 => ?_)
    · have hf := ite_t hf c2
      refine lv_aload_n X.1 X.2.1 dX4_leavesAs_11 rfl (lv_at hl 0 rfl) ?_
      refine lv_dup X.1 X.2.1 dX4_leavesAs_12 rfl ?_
      refine z_get X hK hP hiX4 9 rfl rfl 10 (by decide) (bw_in W4_6) rfl dX4_leavesAs_13 ?_
      refine lv_iconst (v := 1) X.1 X.2.1 dX4_leavesAs_16 (by decide) ?_
      refine lv_iload_n X.1 X.2.1 dX4_leavesAs_17 rfl (lv_at hl 1 rfl) ?_
      refine lv_ishl X.1 X.2.1 dX4_leavesAs_18 ?_
      refine lv_iconst (v := -1) X.1 X.2.1 dX4_leavesAs_19 (by decide) ?_
      refine lv_ixor X.1 X.2.1 dX4_leavesAs_20 ?_
      refine lv_iand X.1 X.2.1 dX4_leavesAs_21 ?_
      obtain ⟨r3, er3, hf⟩ := stp_e hf
      refine z_put (ws' := wbX2 K aH h0 ++ (wbX4 K (aH 0) aR r3)) X hK hP hD hS hiX4 tyX4_ok nmX4 9 rfl rfl 10 (by decide) (bw_in W4_6) rfl rfl rfl (Nat.le_of_ble_eq_true rfl) dX4_leavesAs_22 (by rw [er3]; rfl) (fun H locs hP hD hS => ?_)
      refine lv_iload_n X.1 X.2.1 dX4_leavesAs_25 rfl (lv_at hl 2 rfl) ?_
      refine lv_if_lt (tgt := 69) X.1 X.2.1 dX4_leavesAs_26 (by decide) (fun c4 => ?_) (fun c4 => ?_)
      · have hf := ite_t hf c4
        obtain rfl := z_inj1 hf
        exact z_vret X hr hlk hP hD hS dX4_leavesAs_69
      · have hf := ite_f hf c4
        refine lv_iload_n X.1 X.2.1 dX4_leavesAs_29 rfl (lv_at hl 2 rfl) ?_
        refine lv_aload_n X.1 X.2.1 dX4_leavesAs_30 rfl (lv_at hl 0 rfl) ?_
        refine z_get X hK hP hiX4 9 rfl rfl 0 (by decide) (bw_in W4_8) rfl dX4_leavesAs_31 ?_
        refine z_get X hK hP hiX2 0 rfl rfl 2 (by decide) (bw_in W13_20) rfl dX4_leavesAs_34 ?_
        refine lv_icmp_ge (tgt := 69) X.1 X.2.1 dX4_leavesAs_37 (by decide) (fun c5 => ?_) (fun c5 => ?_)
        · have hf := ite_t hf c5
          obtain rfl := z_inj1 hf
          exact z_vret X hr hlk hP hD hS dX4_leavesAs_69
        · have hf := ite_f hf c5
          refine lv_aload_n X.1 X.2.1 dX4_leavesAs_40 rfl (lv_at hl 0 rfl) ?_
          refine lv_dup X.1 X.2.1 dX4_leavesAs_41 rfl ?_
          refine z_get X hK hP hiX4 9 rfl rfl 10 (by decide) (bw_in W4_6) rfl dX4_leavesAs_42 ?_
          refine lv_iconst (v := 1) X.1 X.2.1 dX4_leavesAs_45 (by decide) ?_
          refine lv_iload_n X.1 X.2.1 dX4_leavesAs_46 rfl (lv_at hl 1 rfl) ?_
          refine lv_ishl X.1 X.2.1 dX4_leavesAs_47 ?_
          refine lv_ior X.1 X.2.1 dX4_leavesAs_48 ?_
          obtain ⟨r6, er6, hf⟩ := stp_e hf
          refine z_put (ws' := wbX2 K aH h0 ++ (wbX4 K (aH 0) aR r6)) X hK hP hD hS hiX4 tyX4_ok nmX4 9 rfl rfl 10 (by decide) (bw_in W4_6) rfl rfl rfl (Nat.le_of_ble_eq_true rfl) dX4_leavesAs_49 (by rw [er6]; rfl) (fun H locs hP hD hS => ?_)
          refine lv_aload_n X.1 X.2.1 dX4_leavesAs_52 rfl (lv_at hl 0 rfl) ?_
          refine z_get X hK hP hiX4 9 rfl rfl 11 (by decide) (bw_in W4_7) rfl dX4_leavesAs_53 ?_
          refine lv_iload_n X.1 X.2.1 dX4_leavesAs_56 rfl (lv_at hl 1 rfl) ?_
          refine lv_aload_n X.1 X.2.1 dX4_leavesAs_57 rfl (lv_at hl 0 rfl) ?_
          refine z_get X hK hP hiX4 9 rfl rfl 0 (by decide) (bw_in W4_8) rfl dX4_leavesAs_58 ?_
          refine z_get X hK hP hiX2 0 rfl rfl 6 (by decide) (bw_in W13_21) rfl dX4_leavesAs_61 ?_
          refine lv_iload_n X.1 X.2.1 dX4_leavesAs_64 rfl (lv_at hl 2 rfl) ?_
          obtain ⟨hi8, hf⟩ := chk_e hf
          obtain ⟨v7, ev7, hf⟩ := stp_e hf
          refine z_iald X hK hP 1 rfl hi8 ev7 dX4_leavesAs_65 ?_
          refine lv_iconst (v := 2) X.1 X.2.1 dX4_leavesAs_66 (by decide) ?_
          refine lv_idiv X.1 X.2.1 dX4_leavesAs_67 (by decide) ?_
          obtain ⟨hi9, hf⟩ := chk_e hf
          obtain ⟨r10, er10, hf⟩ := stp_e hf
          refine z_iast (ws' := wbX2 K aH h0 ++ (wbX4 K (aH 0) aR r10)) X hK hP hD hS 18 rfl hi9 dX4_leavesAs_68 (by rw [er10]; rfl) (fun H locs hP hD hS => ?_)
          obtain rfl := z_inj1 hf
          exact z_vret X hr hlk hP hD hS dX4_leavesAs_69
    · have hf := ite_f hf c2
      obtain rfl := z_inj1 hf
      exact z_vret X hr hlk hP hD hS dX4_leavesAs_10
abbrev rmX4_begin : Room := { frames := 1, cells := 0, slots := 0, locals := 22 }
set_option maxHeartbeats 4000000 in
set_option maxRecDepth 100000 in
theorem kX4_begin (l : Launch) (D : va_G) (K : Nat → ClassId) (aH : Nat → Nat) (aR : Nat → Nat) (h0 : St) (r0 : St) (sz : Nat) (x1 : Int32) (r_ : St) (hf : fX4_begin h0 r0 x1 = some r_) : Met l yX4_begin (bw (Cond.code yX4_begin cX4_begin 3 none)) rmX4_begin (va_Pc [.ref (aR 0), .int x1] (zB D K sz (wbX2 K aH h0 ++ (wbX4 K (aH 0) aR r0)))) (zQ (none) D (va_A (wbX2 K aH h0 ++ (wbX4 K (aH 0) aR r0)) sz) (wbX2 K aH h0 ++ (wbX4 K (aH 0) aR r_))) 0 0 (va_A (wbX2 K aH h0 ++ (wbX4 K (aH 0) aR r0)) sz) := by
  refine z_of (cc := cX4_begin) (maxL := 3) (ret := none) (own := RX4) (lv := [(0, .ref (aR 0)), (1, .int x1)]) (by decide) rfl rfl (Nat.le_of_ble_eq_true rfl) rfl ?_
  intro p e s m below meth c X hr hlk hK hN hsz hP hD hA hS hin ls hl
  generalize va_A (wbX2 K aH h0 ++ (wbX4 K (aH 0) aR r0)) sz = A at hD hA hS hN ⊢
  have hiX2 : ∀ w ∈ u_ws RX2 TX2 14, w ∈ (bw (Cond.code yX4_begin cX4_begin 3 none)) := fun w h => bw_in (inlX2 w h)
  have hiX4 : ∀ w ∈ u_ws RX4 TX4 12, w ∈ (bw (Cond.code yX4_begin cX4_begin 3 none)) := fun w h => bw_in (inlX4 w h)
  have L25_0 : ∀ (n : Nat), ∀ (n25_0 : Int32) (n25_1 : Int32) (q25_R : St), fX4_begin_25 h0 n n25_0 n25_1 q25_R = some r_ → ∀ (H : Heap) (locs : List Loc), va_P D vwCl (wbX2 K aH h0 ++ (wbX4 K (aH 0) aR q25_R)) H → va_D A (wbX2 K aH h0 ++ (wbX4 K (aH 0) aR q25_R)) → va_S A s.heap H locs → ∀ (ls : Array Slot), lv_has ls 3 [(0, .ref (aR 0)), (1, .int n25_0), (2, .int n25_1)] → W p l e rmX4_begin s m ([.ref (aR 0), .int x1] : List Value).toArray below meth c H locs 0 0 (MQ below (zQ (none) D A (wbX2 K aH h0 ++ (wbX4 K (aH 0) aR r_))) ([.ref (aR 0), .int x1] : List Value).toArray s 0 0 A) (F0 m 25 ls []) := by
    intro n
    induction n with
    | zero =>
      intro n25_0 n25_1 q25_R hf
      rw [fX4_begin_25] at hf
      cases hf
    | succ n ih =>
      intro n25_0 n25_1 q25_R hf H locs hP hD hS ls hl
      rw [fX4_begin_25] at hf
      refine lv_iload_n X.1 X.2.1 dX4_begin_25 rfl (lv_at hl 2 rfl) ?_
      refine lv_aload_n X.1 X.2.1 dX4_begin_26 rfl (lv_at hl 0 rfl) ?_
      refine z_get X hK hP hiX4 9 rfl rfl 0 (by decide) (bw_in W4_8) rfl dX4_begin_27 ?_
      refine z_get X hK hP hiX2 0 rfl rfl 3 (by decide) (bw_in W13_12) rfl dX4_begin_30 ?_
      refine lv_icmp_ge (tgt := 64) X.1 X.2.1 dX4_begin_33 (by decide) (fun c5 => ?_) (fun c5 => ?_)
      · have hf := ite_t hf c5
        obtain rfl := z_inj1 hf
        exact z_vret X hr hlk hP hD hS dX4_begin_64
      · have hf := ite_f hf c5
        refine lv_iload_n X.1 X.2.1 dX4_begin_36 rfl (lv_at hl 1 rfl) ?_
        refine lv_iload_n X.1 X.2.1 dX4_begin_37 rfl (lv_at hl 2 rfl) ?_
        obtain ⟨r6, hc7, hf⟩ := bd1_e hf
        refine z_SN (n := 2) (As := [.int n25_0, .int n25_1]) (rest := []) (host := "LeaversFloor") X hK hN (kX8_has l D K _ n25_0 n25_1 r6 hc7) (bw_G W13_15) (by decide) (bw_in W1_2) (bw_in W13_14) rfl ⟨rfl, rfl⟩ (by decide +kernel) rfl ⟨Nat.le_of_ble_eq_true rfl, Nat.le_of_ble_eq_true rfl⟩ (fun _ _ h => by simp at h) ⟨fun _ _ _ _ h => by simp at h, fun _ _ h => by simp at h⟩ (zj_none hP hD hS hA) hS hl.1 rfl (Nat.le_of_ble_eq_true rfl) dX4_begin_38 ⟨Nat.zero_le _, Nat.zero_le _⟩ rfl (fun H locs hP hD hS => ?_)
        refine lv_if_eq (tgt := 58) X.1 X.2.1 dX4_begin_41 (by decide) (fun c8 => ?_) (fun c8 => ?_)
        · have hf := ite_t hf c8
          obtain ⟨w9, ew9, hf⟩ := stp_e hf
          refine lv_iinc (v := w9) (lv' := [(2, .int w9), (0, .ref (aR 0)), (1, .int n25_0)]) X.1 X.2.1 dX4_begin_58 hl (k := 2) rfl (by rw [ew9]; rfl) (by decide) rfl (fun ls hl => ?_)
          refine lv_goto (tgt := 25) X.1 X.2.1 dX4_begin_61 (by decide) ?_
          exact ih _ _ _ hf _ _ hP hD hS _ (lv_sub hl [1, 2, 0] rfl)
        · have hf := ite_f hf c8
          refine lv_aload_n X.1 X.2.1 dX4_begin_44 rfl (lv_at hl 0 rfl) ?_
          refine lv_iload_n X.1 X.2.1 dX4_begin_45 rfl (lv_at hl 2 rfl) ?_
          refine lv_aload_n X.1 X.2.1 dX4_begin_46 rfl (lv_at hl 0 rfl) ?_
          refine z_get X hK hP hiX4 9 rfl rfl 0 (by decide) (bw_in W4_8) rfl dX4_begin_47 ?_
          refine z_get X hK hP hiX2 0 rfl rfl 10 (by decide) (bw_in W13_13) rfl dX4_begin_50 ?_
          refine lv_iload_n X.1 X.2.1 dX4_begin_53 rfl (lv_at hl 2 rfl) ?_
          obtain ⟨hi11, hf⟩ := chk_e hf
          obtain ⟨v10, ev10, hf⟩ := stp_e hf
          refine z_iald X hK hP 5 rfl hi11 ev10 dX4_begin_54 ?_
          obtain ⟨r12, hc13, hf⟩ := bd1_e hf
          refine z_V (n := 2) (As := [.int n25_1, .int v10]) (rest := []) (ci := 4) (q0 := 9) X hK hN (kX4_leavesAs l D K aH aR h0 q25_R _ n25_1 v10 r12 hc13) (bw_V W13_16 W13_17 W13_18 W1_22 W13_19) rfl ⟨rfl, rfl⟩ (by decide +kernel) rfl ⟨Nat.le_of_ble_eq_true rfl, Nat.le_of_ble_eq_true rfl⟩ hP hD rfl rfl (zj_same hD hS hA) hS hl.1 rfl (Nat.le_of_ble_eq_true rfl) dX4_begin_55 ⟨Nat.zero_le _, Nat.zero_le _⟩ rfl (fun H locs hP hD hS => ?_)
          obtain ⟨w14, ew14, hf⟩ := stp_e hf
          refine lv_iinc (v := w14) (lv' := [(2, .int w14), (0, .ref (aR 0)), (1, .int n25_0)]) X.1 X.2.1 dX4_begin_58 hl (k := 2) rfl (by rw [ew14]; rfl) (by decide) rfl (fun ls hl => ?_)
          refine lv_goto (tgt := 25) X.1 X.2.1 dX4_begin_61 (by decide) ?_
          exact ih _ _ _ hf _ _ hP hD hS _ (lv_sub hl [1, 2, 0] rfl)
  rw [fX4_begin] at hf
  refine lv_aload_n X.1 X.2.1 dX4_begin_0 rfl (lv_at hl 0 rfl) ?_
  refine lv_iconst (v := 1) X.1 X.2.1 dX4_begin_1 (by decide) ?_
  obtain ⟨r1, er1, hf⟩ := stp_e hf
  refine z_put (ws' := wbX2 K aH h0 ++ (wbX4 K (aH 0) aR r1)) X hK hP hD hS hiX4 tyX4_ok nmX4 9 rfl rfl 9 (by decide) (bw_in W4_5) rfl rfl rfl (Nat.le_of_ble_eq_true rfl) dX4_begin_2 (by rw [er1]; rfl) (fun H locs hP hD hS => ?_)
  refine lv_aload_n X.1 X.2.1 dX4_begin_5 rfl (lv_at hl 0 rfl) ?_
  refine z_get X hK hP hiX4 9 rfl rfl 7 (by decide) (bw_in W4_3) rfl dX4_begin_6 ?_
  refine lv_iconst (v := 0) X.1 X.2.1 dX4_begin_9 (by decide) ?_
  refine lv_aload_n X.1 X.2.1 dX4_begin_10 rfl (lv_at hl 0 rfl) ?_
  refine z_get X hK hP hiX4 9 rfl rfl 0 (by decide) (bw_in W4_8) rfl dX4_begin_11 ?_
  refine z_get X hK hP hiX2 0 rfl rfl 5 (by decide) (bw_in W13_11) rfl dX4_begin_14 ?_
  obtain ⟨hi2, hf⟩ := chk_e hf
  obtain ⟨r3, er3, hf⟩ := stp_e hf
  refine z_iast (ws' := wbX2 K aH h0 ++ (wbX4 K (aH 0) aR r3)) X hK hP hD hS 16 rfl hi2 dX4_begin_17 (by rw [er3]; rfl) (fun H locs hP hD hS => ?_)
  refine lv_aload_n X.1 X.2.1 dX4_begin_18 rfl (lv_at hl 0 rfl) ?_
  refine lv_iconst (v := 0) X.1 X.2.1 dX4_begin_19 (by decide) ?_
  obtain ⟨r4, er4, hf⟩ := stp_e hf
  refine z_put (ws' := wbX2 K aH h0 ++ (wbX4 K (aH 0) aR r4)) X hK hP hD hS hiX4 tyX4_ok nmX4 9 rfl rfl 10 (by decide) (bw_in W4_6) rfl rfl rfl (Nat.le_of_ble_eq_true rfl) dX4_begin_20 (by rw [er4]; rfl) (fun H locs hP hD hS => ?_)
  refine lv_iconst (v := 0) X.1 X.2.1 dX4_begin_23 (by decide) ?_
  refine lv_istore_n (lv' := [(2, .int 0), (0, .ref (aR 0)), (1, .int x1)]) X.1 X.2.1 dX4_begin_24 rfl hl (by decide) rfl (fun ls hl => ?_)
  exact L25_0  _ _ _ _ hf _ _ hP hD hS _ (lv_sub hl [1, 2, 0] rfl)
abbrev rmX4_endsBehind : Room := { frames := 0, cells := 0, slots := 0, locals := 0 }
set_option maxHeartbeats 4000000 in
set_option maxRecDepth 100000 in
theorem kX4_endsBehind (l : Launch) (D : va_G) (K : Nat → ClassId) (aH : Nat → Nat) (aR : Nat → Nat) (h0 : St) (r0 : St) (sz : Nat)  (q_ : Int32) (hf : fX4_endsBehind h0 r0 = some q_) : Met l yX4_endsBehind (bw (Cond.code yX4_endsBehind cX4_endsBehind 1 (some .int))) rmX4_endsBehind (va_Pc [.ref (aR 0)] (zB D K sz (wbX2 K aH h0 ++ (wbX4 K (aH 0) aR r0)))) (zQ (some (.int q_)) D (va_A (wbX2 K aH h0 ++ (wbX4 K (aH 0) aR r0)) sz) (wbX2 K aH h0 ++ (wbX4 K (aH 0) aR r0))) 0 0 (va_A (wbX2 K aH h0 ++ (wbX4 K (aH 0) aR r0)) sz) := by
  refine z_of (cc := cX4_endsBehind) (maxL := 1) (ret := (some .int)) (own := RX4) (lv := [(0, .ref (aR 0))]) (by decide) rfl rfl (Nat.le_of_ble_eq_true rfl) rfl ?_
  intro p e s m below meth c X hr hlk hK hN hsz hP hD hA hS hin ls hl
  generalize va_A (wbX2 K aH h0 ++ (wbX4 K (aH 0) aR r0)) sz = A at hD hA hS hN ⊢
  have hiX4 : ∀ w ∈ u_ws RX4 TX4 12, w ∈ (bw (Cond.code yX4_endsBehind cX4_endsBehind 1 (some .int))) := fun w h => bw_in (inlX4 w h)
  rw [fX4_endsBehind] at hf
  refine lv_aload_n X.1 X.2.1 dX4_endsBehind_0 rfl (lv_at hl 0 rfl) ?_
  refine z_get X hK hP hiX4 9 rfl rfl 1 (by decide) (bw_in W3_21) rfl dX4_endsBehind_1 ?_
  refine lv_aload_n X.1 X.2.1 dX4_endsBehind_4 rfl (lv_at hl 0 rfl) ?_
  refine z_get X hK hP hiX4 9 rfl rfl 9 (by decide) (bw_in W4_5) rfl dX4_endsBehind_5 ?_
  refine lv_iconst (v := 1) X.1 X.2.1 dX4_endsBehind_8 (by decide) ?_
  refine lv_isub X.1 X.2.1 dX4_endsBehind_9 ?_
  obtain ⟨hi2, hf⟩ := chk_e hf
  obtain ⟨v1, ev1, hf⟩ := stp_e hf
  refine z_iald X hK hP 10 rfl hi2 ev1 dX4_endsBehind_10 ?_
  obtain rfl := z_inj1 hf
  exact z_iret X hr hlk hP hD hS dX4_endsBehind_11
abbrev rmX4_getsInBehind : Room := { frames := 1, cells := 0, slots := 0, locals := 21 }
set_option maxHeartbeats 4000000 in
set_option maxRecDepth 100000 in
theorem kX4_getsInBehind (l : Launch) (D : va_G) (K : Nat → ClassId) (aH : Nat → Nat) (aR : Nat → Nat) (h0 : St) (r0 : St) (sz : Nat) (x1 : Int32) (q_ : Int32) (hf : fX4_getsInBehind h0 r0 x1 = some q_) : Met l yX4_getsInBehind (bw (Cond.code yX4_getsInBehind cX4_getsInBehind 3 (some .int))) rmX4_getsInBehind (va_Pc [.ref (aR 0), .int x1] (zB D K sz (wbX2 K aH h0 ++ (wbX4 K (aH 0) aR r0)))) (zQ (some (.int q_)) D (va_A (wbX2 K aH h0 ++ (wbX4 K (aH 0) aR r0)) sz) (wbX2 K aH h0 ++ (wbX4 K (aH 0) aR r0))) 0 0 (va_A (wbX2 K aH h0 ++ (wbX4 K (aH 0) aR r0)) sz) := by
  refine z_of (cc := cX4_getsInBehind) (maxL := 3) (ret := (some .int)) (own := RX4) (lv := [(0, .ref (aR 0)), (1, .int x1)]) (by decide) rfl rfl (Nat.le_of_ble_eq_true rfl) rfl ?_
  intro p e s m below meth c X hr hlk hK hN hsz hP hD hA hS hin ls hl
  generalize va_A (wbX2 K aH h0 ++ (wbX4 K (aH 0) aR r0)) sz = A at hD hA hS hN ⊢
  have hiX4 : ∀ w ∈ u_ws RX4 TX4 12, w ∈ (bw (Cond.code yX4_getsInBehind cX4_getsInBehind 3 (some .int))) := fun w h => bw_in (inlX4 w h)
  have L2_0 : ∀ (n : Nat), ∀ (n2_0 : Int32) (n2_1 : Int32) , fX4_getsInBehind_2 h0 r0 n n2_0 n2_1 = some q_ → ∀ (H : Heap) (locs : List Loc), va_P D vwCl (wbX2 K aH h0 ++ (wbX4 K (aH 0) aR r0)) H → va_D A (wbX2 K aH h0 ++ (wbX4 K (aH 0) aR r0)) → va_S A s.heap H locs → ∀ (ls : Array Slot), lv_has ls 3 [(0, .ref (aR 0)), (1, .int n2_0), (2, .int n2_1)] → W p l e rmX4_getsInBehind s m ([.ref (aR 0), .int x1] : List Value).toArray below meth c H locs 0 0 (MQ below (zQ (some (.int q_)) D A (wbX2 K aH h0 ++ (wbX4 K (aH 0) aR r0))) ([.ref (aR 0), .int x1] : List Value).toArray s 0 0 A) (F0 m 2 ls []) := by
    intro n
    induction n with
    | zero =>
      intro n2_0 n2_1  hf
      rw [fX4_getsInBehind_2] at hf
      cases hf
    | succ n ih =>
      intro n2_0 n2_1  hf H locs hP hD hS ls hl
      rw [fX4_getsInBehind_2] at hf
      refine lv_iload_n X.1 X.2.1 dX4_getsInBehind_2 rfl (lv_at hl 2 rfl) ?_
      refine lv_aload_n X.1 X.2.1 dX4_getsInBehind_3 rfl (lv_at hl 0 rfl) ?_
      refine z_get X hK hP hiX4 9 rfl rfl 9 (by decide) (bw_in W4_5) rfl dX4_getsInBehind_4 ?_
      refine lv_icmp_ge (tgt := 36) X.1 X.2.1 dX4_getsInBehind_7 (by decide) (fun c1 => ?_) (fun c1 => ?_)
      · have hf := ite_t hf c1
        refine lv_iconst (v := -1) X.1 X.2.1 dX4_getsInBehind_36 (by decide) ?_
        obtain rfl := z_inj1 hf
        exact z_iret X hr hlk hP hD hS dX4_getsInBehind_37
      · have hf := ite_f hf c1
        refine lv_aload_n X.1 X.2.1 dX4_getsInBehind_10 rfl (lv_at hl 0 rfl) ?_
        refine z_get X hK hP hiX4 9 rfl rfl 4 (by decide) (bw_in W4_0) rfl dX4_getsInBehind_11 ?_
        refine lv_iload_n X.1 X.2.1 dX4_getsInBehind_14 rfl (lv_at hl 2 rfl) ?_
        obtain ⟨hi3, hf⟩ := chk_e hf
        obtain ⟨v2, ev2, hf⟩ := stp_e hf
        refine z_iald X hK hP 13 rfl hi3 ev2 dX4_getsInBehind_15 ?_
        refine lv_iload_n X.1 X.2.1 dX4_getsInBehind_16 rfl (lv_at hl 1 rfl) ?_
        obtain ⟨r4, hc5, hf⟩ := bd1_e hf
        refine z_SN (n := 2) (As := [.int v2, .int n2_0]) (rest := []) (host := "LeaversFloor") X hK hN (kX8_has l D K _ v2 n2_0 r4 hc5) (bw_G W13_15) (by decide) (bw_in W1_2) (bw_in W13_14) rfl ⟨rfl, rfl⟩ (by decide +kernel) rfl ⟨Nat.le_of_ble_eq_true rfl, Nat.le_of_ble_eq_true rfl⟩ (fun _ _ h => by simp at h) ⟨fun _ _ _ _ h => by simp at h, fun _ _ h => by simp at h⟩ (zj_none hP hD hS hA) hS hl.1 rfl (Nat.le_of_ble_eq_true rfl) dX4_getsInBehind_17 ⟨Nat.zero_le _, Nat.zero_le _⟩ rfl (fun H locs hP hD hS => ?_)
        refine lv_if_eq (tgt := 30) X.1 X.2.1 dX4_getsInBehind_20 (by decide) (fun c6 => ?_) (fun c6 => ?_)
        · have hf := ite_t hf c6
          obtain ⟨w7, ew7, hf⟩ := stp_e hf
          refine lv_iinc (v := w7) (lv' := [(2, .int w7), (0, .ref (aR 0)), (1, .int n2_0)]) X.1 X.2.1 dX4_getsInBehind_30 hl (k := 2) rfl (by rw [ew7]; rfl) (by decide) rfl (fun ls hl => ?_)
          refine lv_goto (tgt := 2) X.1 X.2.1 dX4_getsInBehind_33 (by decide) ?_
          exact ih _ _ hf _ _ hP hD hS _ (lv_sub hl [1, 2, 0] rfl)
        · have hf := ite_f hf c6
          refine lv_aload_n X.1 X.2.1 dX4_getsInBehind_23 rfl (lv_at hl 0 rfl) ?_
          refine z_get X hK hP hiX4 9 rfl rfl 1 (by decide) (bw_in W3_21) rfl dX4_getsInBehind_24 ?_
          refine lv_iload_n X.1 X.2.1 dX4_getsInBehind_27 rfl (lv_at hl 2 rfl) ?_
          obtain ⟨hi9, hf⟩ := chk_e hf
          obtain ⟨v8, ev8, hf⟩ := stp_e hf
          refine z_iald X hK hP 10 rfl hi9 ev8 dX4_getsInBehind_28 ?_
          obtain rfl := z_inj1 hf
          exact z_iret X hr hlk hP hD hS dX4_getsInBehind_29
  rw [fX4_getsInBehind] at hf
  refine lv_iconst (v := 0) X.1 X.2.1 dX4_getsInBehind_0 (by decide) ?_
  refine lv_istore_n (lv' := [(2, .int 0), (0, .ref (aR 0)), (1, .int x1)]) X.1 X.2.1 dX4_getsInBehind_1 rfl hl (by decide) rfl (fun ls hl => ?_)
  exact L2_0  _ _ _ hf _ _ hP hD hS _ (lv_sub hl [1, 2, 0] rfl)
abbrev rmX4_waitingBy : Room := { frames := 0, cells := 0, slots := 0, locals := 0 }
set_option maxHeartbeats 4000000 in
set_option maxRecDepth 100000 in
theorem kX4_waitingBy (l : Launch) (D : va_G) (K : Nat → ClassId) (aH : Nat → Nat) (aR : Nat → Nat) (h0 : St) (r0 : St) (sz : Nat) (x1 : Int32) (q_ : Int32) (hf : fX4_waitingBy h0 r0 x1 = some q_) : Met l yX4_waitingBy (bw (Cond.code yX4_waitingBy cX4_waitingBy 4 (some .int))) rmX4_waitingBy (va_Pc [.ref (aR 0), .int x1] (zB D K sz (wbX2 K aH h0 ++ (wbX4 K (aH 0) aR r0)))) (zQ (some (.int q_)) D (va_A (wbX2 K aH h0 ++ (wbX4 K (aH 0) aR r0)) sz) (wbX2 K aH h0 ++ (wbX4 K (aH 0) aR r0))) 0 0 (va_A (wbX2 K aH h0 ++ (wbX4 K (aH 0) aR r0)) sz) := by
  refine z_of (cc := cX4_waitingBy) (maxL := 4) (ret := (some .int)) (own := RX4) (lv := [(0, .ref (aR 0)), (1, .int x1)]) (by decide) rfl rfl (Nat.le_of_ble_eq_true rfl) rfl ?_
  intro p e s m below meth c X hr hlk hK hN hsz hP hD hA hS hin ls hl
  generalize va_A (wbX2 K aH h0 ++ (wbX4 K (aH 0) aR r0)) sz = A at hD hA hS hN ⊢
  have hiX2 : ∀ w ∈ u_ws RX2 TX2 14, w ∈ (bw (Cond.code yX4_waitingBy cX4_waitingBy 4 (some .int))) := fun w h => bw_in (inlX2 w h)
  have hiX4 : ∀ w ∈ u_ws RX4 TX4 12, w ∈ (bw (Cond.code yX4_waitingBy cX4_waitingBy 4 (some .int))) := fun w h => bw_in (inlX4 w h)
  have L33_0 : ∀ (n : Nat), ∀ (n33_0 : Int32) (n33_1 : Int32) (n33_2 : Int32) , fX4_waitingBy_33 h0 r0 n n33_0 n33_1 n33_2 = some q_ → ∀ (H : Heap) (locs : List Loc), va_P D vwCl (wbX2 K aH h0 ++ (wbX4 K (aH 0) aR r0)) H → va_D A (wbX2 K aH h0 ++ (wbX4 K (aH 0) aR r0)) → va_S A s.heap H locs → ∀ (ls : Array Slot), lv_has ls 4 [(0, .ref (aR 0)), (1, .int n33_0), (2, .int n33_1), (3, .int n33_2)] → W p l e rmX4_waitingBy s m ([.ref (aR 0), .int x1] : List Value).toArray below meth c H locs 0 0 (MQ below (zQ (some (.int q_)) D A (wbX2 K aH h0 ++ (wbX4 K (aH 0) aR r0))) ([.ref (aR 0), .int x1] : List Value).toArray s 0 0 A) (F0 m 33 ls []) := by
    intro n
    induction n with
    | zero =>
      intro n33_0 n33_1 n33_2  hf
      rw [fX4_waitingBy_33] at hf
      cases hf
    | succ n ih =>
      intro n33_0 n33_1 n33_2  hf H locs hP hD hS ls hl
      rw [fX4_waitingBy_33] at hf
      refine lv_iload_n X.1 X.2.1 dX4_waitingBy_33 rfl (lv_at hl 3 rfl) ?_
      refine lv_aload_n X.1 X.2.1 dX4_waitingBy_34 rfl (lv_at hl 0 rfl) ?_
      refine z_get X hK hP hiX4 9 rfl rfl 0 (by decide) (bw_in W4_8) rfl dX4_waitingBy_35 ?_
      refine z_get X hK hP hiX2 0 rfl rfl 3 (by decide) (bw_in W13_12) rfl dX4_waitingBy_38 ?_
      refine lv_icmp_ge (tgt := 75) X.1 X.2.1 dX4_waitingBy_41 (by decide) (fun c6 => ?_) (fun c6 => ?_)
      · have hf := ite_t hf c6
        refine lv_iload_n X.1 X.2.1 dX4_waitingBy_75 rfl (lv_at hl 2 rfl) ?_
        obtain rfl := z_inj1 hf
        exact z_iret X hr hlk hP hD hS dX4_waitingBy_76
      · have hf := ite_f hf c6
        refine lv_iload_n X.1 X.2.1 dX4_waitingBy_44 rfl (lv_at hl 2 rfl) ?_
        refine lv_if_eq (tgt := 75) X.1 X.2.1 dX4_waitingBy_45 (by decide) (fun c7 => ?_) (fun c7 => ?_)
        · have hf := ite_t hf c7
          refine lv_iload_n X.1 X.2.1 dX4_waitingBy_75 rfl (lv_at hl 2 rfl) ?_
          obtain rfl := z_inj1 hf
          exact z_iret X hr hlk hP hD hS dX4_waitingBy_76
        · have hf := ite_f hf c7
          refine lv_aload_n X.1 X.2.1 dX4_waitingBy_48 rfl (lv_at hl 0 rfl) ?_
          refine z_get X hK hP hiX4 9 rfl rfl 0 (by decide) (bw_in W4_8) rfl dX4_waitingBy_49 ?_
          refine z_get X hK hP hiX2 0 rfl rfl 9 (by decide) (bw_in W14_20) rfl dX4_waitingBy_52 ?_
          refine lv_iload_n X.1 X.2.1 dX4_waitingBy_55 rfl (lv_at hl 3 rfl) ?_
          obtain ⟨hi9, hf⟩ := chk_e hf
          obtain ⟨v8, ev8, hf⟩ := stp_e hf
          refine z_iald X hK hP 4 rfl hi9 ev8 dX4_waitingBy_56 ?_
          refine lv_iload_n X.1 X.2.1 dX4_waitingBy_57 rfl (lv_at hl 1 rfl) ?_
          refine lv_icmp_le (tgt := 69) X.1 X.2.1 dX4_waitingBy_58 (by decide) (fun c10 => ?_) (fun c10 => ?_)
          · have hf := ite_t hf c10
            obtain ⟨w11, ew11, hf⟩ := stp_e hf
            refine lv_iinc (v := w11) (lv' := [(3, .int w11), (0, .ref (aR 0)), (1, .int n33_0), (2, .int n33_1)]) X.1 X.2.1 dX4_waitingBy_69 hl (k := 3) rfl (by rw [ew11]; rfl) (by decide) rfl (fun ls hl => ?_)
            refine lv_goto (tgt := 33) X.1 X.2.1 dX4_waitingBy_72 (by decide) ?_
            exact ih _ _ _ hf _ _ hP hD hS _ (lv_sub hl [1, 2, 3, 0] rfl)
          · have hf := ite_f hf c10
            refine lv_iload_n X.1 X.2.1 dX4_waitingBy_61 rfl (lv_at hl 2 rfl) ?_
            refine lv_iconst (v := 1) X.1 X.2.1 dX4_waitingBy_62 (by decide) ?_
            refine lv_iload_n X.1 X.2.1 dX4_waitingBy_63 rfl (lv_at hl 3 rfl) ?_
            refine lv_ishl X.1 X.2.1 dX4_waitingBy_64 ?_
            refine lv_iconst (v := -1) X.1 X.2.1 dX4_waitingBy_65 (by decide) ?_
            refine lv_ixor X.1 X.2.1 dX4_waitingBy_66 ?_
            refine lv_iand X.1 X.2.1 dX4_waitingBy_67 ?_
            obtain ⟨w12, ew12, hf⟩ := stp_e hf
            refine z_top ew12 ?_
            refine lv_istore_n (lv' := [(2, .int w12), (0, .ref (aR 0)), (1, .int n33_0), (3, .int n33_2)]) X.1 X.2.1 dX4_waitingBy_68 rfl hl (by decide) rfl (fun ls hl => ?_)
            obtain ⟨w13, ew13, hf⟩ := stp_e hf
            refine lv_iinc (v := w13) (lv' := [(3, .int w13), (2, .int w12), (0, .ref (aR 0)), (1, .int n33_0)]) X.1 X.2.1 dX4_waitingBy_69 hl (k := 3) rfl (by rw [ew13]; rfl) (by decide) rfl (fun ls hl => ?_)
            refine lv_goto (tgt := 33) X.1 X.2.1 dX4_waitingBy_72 (by decide) ?_
            exact ih _ _ _ hf _ _ hP hD hS _ (lv_sub hl [2, 3, 1, 0] rfl)
  rw [fX4_waitingBy] at hf
  refine lv_aload_n X.1 X.2.1 dX4_waitingBy_0 rfl (lv_at hl 0 rfl) ?_
  refine z_get X hK hP hiX4 9 rfl rfl 10 (by decide) (bw_in W4_6) rfl dX4_waitingBy_1 ?_
  refine lv_aload_n X.1 X.2.1 dX4_waitingBy_4 rfl (lv_at hl 0 rfl) ?_
  refine z_get X hK hP hiX4 9 rfl rfl 5 (by decide) (bw_in W4_1) rfl dX4_waitingBy_5 ?_
  refine lv_aload_n X.1 X.2.1 dX4_waitingBy_8 rfl (lv_at hl 0 rfl) ?_
  refine z_get X hK hP hiX4 9 rfl rfl 9 (by decide) (bw_in W4_5) rfl dX4_waitingBy_9 ?_
  refine lv_iconst (v := 1) X.1 X.2.1 dX4_waitingBy_12 (by decide) ?_
  refine lv_isub X.1 X.2.1 dX4_waitingBy_13 ?_
  obtain ⟨hi2, hf⟩ := chk_e hf
  obtain ⟨v1, ev1, hf⟩ := stp_e hf
  refine z_iald X hK hP 14 rfl hi2 ev1 dX4_waitingBy_14 ?_
  refine lv_aload_n X.1 X.2.1 dX4_waitingBy_15 rfl (lv_at hl 0 rfl) ?_
  refine z_get X hK hP hiX4 9 rfl rfl 6 (by decide) (bw_in W4_2) rfl dX4_waitingBy_16 ?_
  refine lv_aload_n X.1 X.2.1 dX4_waitingBy_19 rfl (lv_at hl 0 rfl) ?_
  refine z_get X hK hP hiX4 9 rfl rfl 9 (by decide) (bw_in W4_5) rfl dX4_waitingBy_20 ?_
  refine lv_iconst (v := 1) X.1 X.2.1 dX4_waitingBy_23 (by decide) ?_
  refine lv_isub X.1 X.2.1 dX4_waitingBy_24 ?_
  obtain ⟨hi4, hf⟩ := chk_e hf
  obtain ⟨v3, ev3, hf⟩ := stp_e hf
  refine z_iald X hK hP 15 rfl hi4 ev3 dX4_waitingBy_25 ?_
  refine lv_ior X.1 X.2.1 dX4_waitingBy_26 ?_
  refine lv_iconst (v := -1) X.1 X.2.1 dX4_waitingBy_27 (by decide) ?_
  refine lv_ixor X.1 X.2.1 dX4_waitingBy_28 ?_
  refine lv_iand X.1 X.2.1 dX4_waitingBy_29 ?_
  obtain ⟨w5, ew5, hf⟩ := stp_e hf
  refine z_top ew5 ?_
  refine lv_istore_n (lv' := [(2, .int w5), (0, .ref (aR 0)), (1, .int x1)]) X.1 X.2.1 dX4_waitingBy_30 rfl hl (by decide) rfl (fun ls hl => ?_)
  refine lv_iconst (v := 0) X.1 X.2.1 dX4_waitingBy_31 (by decide) ?_
  refine lv_istore_n (lv' := [(3, .int 0), (2, .int w5), (0, .ref (aR 0)), (1, .int x1)]) X.1 X.2.1 dX4_waitingBy_32 rfl hl (by decide) rfl (fun ls hl => ?_)
  exact L33_0  _ _ _ _ hf _ _ hP hD hS _ (lv_sub hl [2, 3, 1, 0] rfl)
abbrev rmX4_letAbsencesIn : Room := { frames := 0, cells := 0, slots := 0, locals := 0 }
set_option maxHeartbeats 4000000 in
set_option maxRecDepth 100000 in
theorem kX4_letAbsencesIn (l : Launch) (D : va_G) (K : Nat → ClassId) (aH : Nat → Nat) (aR : Nat → Nat) (h0 : St) (r0 : St) (sz : Nat) (x1 : Int32) (r_ : St) (hf : fX4_letAbsencesIn h0 r0 x1 = some r_) : Met l yX4_letAbsencesIn (bw (Cond.code yX4_letAbsencesIn cX4_letAbsencesIn 4 none)) rmX4_letAbsencesIn (va_Pc [.ref (aR 0), .int x1] (zB D K sz (wbX2 K aH h0 ++ (wbX4 K (aH 0) aR r0)))) (zQ (none) D (va_A (wbX2 K aH h0 ++ (wbX4 K (aH 0) aR r0)) sz) (wbX2 K aH h0 ++ (wbX4 K (aH 0) aR r_))) 0 0 (va_A (wbX2 K aH h0 ++ (wbX4 K (aH 0) aR r0)) sz) := by
  refine z_of (cc := cX4_letAbsencesIn) (maxL := 4) (ret := none) (own := RX4) (lv := [(0, .ref (aR 0)), (1, .int x1)]) (by decide) rfl rfl (Nat.le_of_ble_eq_true rfl) rfl ?_
  intro p e s m below meth c X hr hlk hK hN hsz hP hD hA hS hin ls hl
  generalize va_A (wbX2 K aH h0 ++ (wbX4 K (aH 0) aR r0)) sz = A at hD hA hS hN ⊢
  have hiX2 : ∀ w ∈ u_ws RX2 TX2 14, w ∈ (bw (Cond.code yX4_letAbsencesIn cX4_letAbsencesIn 4 none)) := fun w h => bw_in (inlX2 w h)
  have hiX4 : ∀ w ∈ u_ws RX4 TX4 12, w ∈ (bw (Cond.code yX4_letAbsencesIn cX4_letAbsencesIn 4 none)) := fun w h => bw_in (inlX4 w h)
  have L9_0 : ∀ (n : Nat), ∀ (n9_0 : Int32) (n9_1 : Int32) (n9_2 : Int32) (q9_R : St), fX4_letAbsencesIn_9 h0 n n9_0 n9_1 n9_2 q9_R = some r_ → ∀ (H : Heap) (locs : List Loc), va_P D vwCl (wbX2 K aH h0 ++ (wbX4 K (aH 0) aR q9_R)) H → va_D A (wbX2 K aH h0 ++ (wbX4 K (aH 0) aR q9_R)) → va_S A s.heap H locs → ∀ (ls : Array Slot), lv_has ls 4 [(0, .ref (aR 0)), (1, .int n9_0), (2, .int n9_1), (3, .int n9_2)] → W p l e rmX4_letAbsencesIn s m ([.ref (aR 0), .int x1] : List Value).toArray below meth c H locs 0 0 (MQ below (zQ (none) D A (wbX2 K aH h0 ++ (wbX4 K (aH 0) aR r_))) ([.ref (aR 0), .int x1] : List Value).toArray s 0 0 A) (F0 m 9 ls []) := by
    intro n
    induction n with
    | zero =>
      intro n9_0 n9_1 n9_2 q9_R hf
      rw [fX4_letAbsencesIn_9] at hf
      cases hf
    | succ n ih =>
      intro n9_0 n9_1 n9_2 q9_R hf H locs hP hD hS ls hl
      rw [fX4_letAbsencesIn_9] at hf
      refine lv_iload_n X.1 X.2.1 dX4_letAbsencesIn_9 rfl (lv_at hl 3 rfl) ?_
      refine lv_aload_n X.1 X.2.1 dX4_letAbsencesIn_10 rfl (lv_at hl 0 rfl) ?_
      refine z_get X hK hP hiX4 9 rfl rfl 0 (by decide) (bw_in W4_8) rfl dX4_letAbsencesIn_11 ?_
      refine z_get X hK hP hiX2 0 rfl rfl 3 (by decide) (bw_in W13_12) rfl dX4_letAbsencesIn_14 ?_
      refine lv_icmp_ge (tgt := 84) X.1 X.2.1 dX4_letAbsencesIn_17 (by decide) (fun c2 => ?_) (fun c2 => ?_)
      · have hf := ite_t hf c2
        obtain rfl := z_inj1 hf
        exact z_vret X hr hlk hP hD hS dX4_letAbsencesIn_84
      · have hf := ite_f hf c2
        refine lv_iload_n X.1 X.2.1 dX4_letAbsencesIn_20 rfl (lv_at hl 1 rfl) ?_
        refine lv_iload_n X.1 X.2.1 dX4_letAbsencesIn_21 rfl (lv_at hl 3 rfl) ?_
        refine lv_ishr X.1 X.2.1 dX4_letAbsencesIn_22 ?_
        refine lv_iconst (v := 1) X.1 X.2.1 dX4_letAbsencesIn_23 (by decide) ?_
        refine lv_iand X.1 X.2.1 dX4_letAbsencesIn_24 ?_
        refine lv_if_eq (tgt := 78) X.1 X.2.1 dX4_letAbsencesIn_25 (by decide) (fun c3 => ?_) (fun c3 => ?_)
        · have hf := ite_t hf c3
          obtain ⟨w4, ew4, hf⟩ := stp_e hf
          refine lv_iinc (v := w4) (lv' := [(3, .int w4), (0, .ref (aR 0)), (1, .int n9_0), (2, .int n9_1)]) X.1 X.2.1 dX4_letAbsencesIn_78 hl (k := 3) rfl (by rw [ew4]; rfl) (by decide) rfl (fun ls hl => ?_)
          refine lv_goto (tgt := 9) X.1 X.2.1 dX4_letAbsencesIn_81 (by decide) ?_
          exact ih _ _ _ _ hf _ _ hP hD hS _ (lv_sub hl [1, 2, 3, 0] rfl)
        · have hf := ite_f hf c3
          refine lv_aload_n X.1 X.2.1 dX4_letAbsencesIn_28 rfl (lv_at hl 0 rfl) ?_
          refine z_get X hK hP hiX4 9 rfl rfl 3 (by decide) (bw_in W3_23) rfl dX4_letAbsencesIn_29 ?_
          refine lv_iload_n X.1 X.2.1 dX4_letAbsencesIn_32 rfl (lv_at hl 2 rfl) ?_
          obtain ⟨hi6, hf⟩ := chk_e hf
          obtain ⟨v5, ev5, hf⟩ := stp_e hf
          refine z_iald X hK hP 12 rfl hi6 ev5 dX4_letAbsencesIn_33 ?_
          refine lv_aload_n X.1 X.2.1 dX4_letAbsencesIn_34 rfl (lv_at hl 0 rfl) ?_
          refine z_get X hK hP hiX4 9 rfl rfl 11 (by decide) (bw_in W4_7) rfl dX4_letAbsencesIn_35 ?_
          refine lv_iload_n X.1 X.2.1 dX4_letAbsencesIn_38 rfl (lv_at hl 3 rfl) ?_
          obtain ⟨hi8, hf⟩ := chk_e hf
          obtain ⟨v7, ev7, hf⟩ := stp_e hf
          refine z_iald X hK hP 18 rfl hi8 ev7 dX4_letAbsencesIn_39 ?_
          refine lv_iadd X.1 X.2.1 dX4_letAbsencesIn_40 ?_
          refine lv_aload_n X.1 X.2.1 dX4_letAbsencesIn_41 rfl (lv_at hl 0 rfl) ?_
          refine z_get X hK hP hiX4 9 rfl rfl 0 (by decide) (bw_in W4_8) rfl dX4_letAbsencesIn_42 ?_
          refine z_get X hK hP hiX2 0 rfl rfl 1 (by decide) (bw_in W15_5) rfl dX4_letAbsencesIn_45 ?_
          refine lv_icmp_gt (tgt := 78) X.1 X.2.1 dX4_letAbsencesIn_48 (by decide) (fun c9 => ?_) (fun c9 => ?_)
          · have hf := ite_t hf c9
            obtain ⟨w10, ew10, hf⟩ := stp_e hf
            refine lv_iinc (v := w10) (lv' := [(3, .int w10), (0, .ref (aR 0)), (1, .int n9_0), (2, .int n9_1)]) X.1 X.2.1 dX4_letAbsencesIn_78 hl (k := 3) rfl (by rw [ew10]; rfl) (by decide) rfl (fun ls hl => ?_)
            refine lv_goto (tgt := 9) X.1 X.2.1 dX4_letAbsencesIn_81 (by decide) ?_
            exact ih _ _ _ _ hf _ _ hP hD hS _ (lv_sub hl [1, 2, 3, 0] rfl)
          · have hf := ite_f hf c9
            refine lv_aload_n X.1 X.2.1 dX4_letAbsencesIn_51 rfl (lv_at hl 0 rfl) ?_
            refine z_get X hK hP hiX4 9 rfl rfl 5 (by decide) (bw_in W4_1) rfl dX4_letAbsencesIn_52 ?_
            refine lv_iload_n X.1 X.2.1 dX4_letAbsencesIn_55 rfl (lv_at hl 2 rfl) ?_
            refine lv_dup2_11 X.1 X.2.1 dX4_letAbsencesIn_56 rfl rfl ?_
            obtain ⟨hi12, hf⟩ := chk_e hf
            obtain ⟨v11, ev11, hf⟩ := stp_e hf
            refine z_iald X hK hP 14 rfl hi12 ev11 dX4_letAbsencesIn_57 ?_
            refine lv_iconst (v := 1) X.1 X.2.1 dX4_letAbsencesIn_58 (by decide) ?_
            refine lv_iload_n X.1 X.2.1 dX4_letAbsencesIn_59 rfl (lv_at hl 3 rfl) ?_
            refine lv_ishl X.1 X.2.1 dX4_letAbsencesIn_60 ?_
            refine lv_ior X.1 X.2.1 dX4_letAbsencesIn_61 ?_
            obtain ⟨hi13, hf⟩ := chk_e hf
            obtain ⟨r14, er14, hf⟩ := stp_e hf
            refine z_iast (ws' := wbX2 K aH h0 ++ (wbX4 K (aH 0) aR r14)) X hK hP hD hS 14 rfl hi13 dX4_letAbsencesIn_62 (by rw [er14]; rfl) (fun H locs hP hD hS => ?_)
            refine lv_aload_n X.1 X.2.1 dX4_letAbsencesIn_63 rfl (lv_at hl 0 rfl) ?_
            refine z_get X hK hP hiX4 9 rfl rfl 3 (by decide) (bw_in W3_23) rfl dX4_letAbsencesIn_64 ?_
            refine lv_iload_n X.1 X.2.1 dX4_letAbsencesIn_67 rfl (lv_at hl 2 rfl) ?_
            refine lv_dup2_11 X.1 X.2.1 dX4_letAbsencesIn_68 rfl rfl ?_
            obtain ⟨hi16, hf⟩ := chk_e hf
            obtain ⟨v15, ev15, hf⟩ := stp_e hf
            refine z_iald X hK hP 12 rfl hi16 ev15 dX4_letAbsencesIn_69 ?_
            refine lv_aload_n X.1 X.2.1 dX4_letAbsencesIn_70 rfl (lv_at hl 0 rfl) ?_
            refine z_get X hK hP hiX4 9 rfl rfl 11 (by decide) (bw_in W4_7) rfl dX4_letAbsencesIn_71 ?_
            refine lv_iload_n X.1 X.2.1 dX4_letAbsencesIn_74 rfl (lv_at hl 3 rfl) ?_
            obtain ⟨hi18, hf⟩ := chk_e hf
            obtain ⟨v17, ev17, hf⟩ := stp_e hf
            refine z_iald X hK hP 18 rfl hi18 ev17 dX4_letAbsencesIn_75 ?_
            refine lv_iadd X.1 X.2.1 dX4_letAbsencesIn_76 ?_
            obtain ⟨hi19, hf⟩ := chk_e hf
            obtain ⟨r20, er20, hf⟩ := stp_e hf
            refine z_iast (ws' := wbX2 K aH h0 ++ (wbX4 K (aH 0) aR r20)) X hK hP hD hS 12 rfl hi19 dX4_letAbsencesIn_77 (by rw [er20]; rfl) (fun H locs hP hD hS => ?_)
            obtain ⟨w21, ew21, hf⟩ := stp_e hf
            refine lv_iinc (v := w21) (lv' := [(3, .int w21), (0, .ref (aR 0)), (1, .int n9_0), (2, .int n9_1)]) X.1 X.2.1 dX4_letAbsencesIn_78 hl (k := 3) rfl (by rw [ew21]; rfl) (by decide) rfl (fun ls hl => ?_)
            refine lv_goto (tgt := 9) X.1 X.2.1 dX4_letAbsencesIn_81 (by decide) ?_
            exact ih _ _ _ _ hf _ _ hP hD hS _ (lv_sub hl [1, 2, 3, 0] rfl)
  rw [fX4_letAbsencesIn] at hf
  refine lv_aload_n X.1 X.2.1 dX4_letAbsencesIn_0 rfl (lv_at hl 0 rfl) ?_
  refine z_get X hK hP hiX4 9 rfl rfl 9 (by decide) (bw_in W4_5) rfl dX4_letAbsencesIn_1 ?_
  refine lv_iconst (v := 1) X.1 X.2.1 dX4_letAbsencesIn_4 (by decide) ?_
  refine lv_isub X.1 X.2.1 dX4_letAbsencesIn_5 ?_
  obtain ⟨w1, ew1, hf⟩ := stp_e hf
  refine z_top ew1 ?_
  refine lv_istore_n (lv' := [(2, .int w1), (0, .ref (aR 0)), (1, .int x1)]) X.1 X.2.1 dX4_letAbsencesIn_6 rfl hl (by decide) rfl (fun ls hl => ?_)
  refine lv_iconst (v := 0) X.1 X.2.1 dX4_letAbsencesIn_7 (by decide) ?_
  refine lv_istore_n (lv' := [(3, .int 0), (2, .int w1), (0, .ref (aR 0)), (1, .int x1)]) X.1 X.2.1 dX4_letAbsencesIn_8 rfl hl (by decide) rfl (fun ls hl => ?_)
  exact L9_0  _ _ _ _ _ hf _ _ hP hD hS _ (lv_sub hl [2, 3, 1, 0] rfl)
abbrev rmX4_passHalf : Room := { frames := 1, cells := 0, slots := 0, locals := 24 }
set_option maxHeartbeats 4000000 in
set_option maxRecDepth 100000 in
theorem kX4_passHalf (l : Launch) (D : va_G) (K : Nat → ClassId) (aH : Nat → Nat) (aR : Nat → Nat) (h0 : St) (r0 : St) (sz : Nat) (x1 : Int32) (x2 : Int32) (q_ : Int32) (r_ : St) (hf : fX4_passHalf h0 r0 x1 x2 = some (q_, r_)) : Met l yX4_passHalf (bw (Cond.code yX4_passHalf cX4_passHalf 8 (some .int))) rmX4_passHalf (va_Pc [.ref (aR 0), .int x1, .int x2] (zB D K sz (wbX2 K aH h0 ++ (wbX4 K (aH 0) aR r0)))) (zQ (some (.int q_)) D (va_A (wbX2 K aH h0 ++ (wbX4 K (aH 0) aR r0)) sz) (wbX2 K aH h0 ++ (wbX4 K (aH 0) aR r_))) 0 0 (va_A (wbX2 K aH h0 ++ (wbX4 K (aH 0) aR r0)) sz) := by
  refine z_of (cc := cX4_passHalf) (maxL := 8) (ret := (some .int)) (own := RX4) (lv := [(0, .ref (aR 0)), (1, .int x1), (2, .int x2)]) (by decide) rfl rfl (Nat.le_of_ble_eq_true rfl) rfl ?_
  intro p e s m below meth c X hr hlk hK hN hsz hP hD hA hS hin ls hl
  generalize va_A (wbX2 K aH h0 ++ (wbX4 K (aH 0) aR r0)) sz = A at hD hA hS hN ⊢
  have hiX2 : ∀ w ∈ u_ws RX2 TX2 14, w ∈ (bw (Cond.code yX4_passHalf cX4_passHalf 8 (some .int))) := fun w h => bw_in (inlX2 w h)
  have hiX4 : ∀ w ∈ u_ws RX4 TX4 12, w ∈ (bw (Cond.code yX4_passHalf cX4_passHalf 8 (some .int))) := fun w h => bw_in (inlX4 w h)
  rw [fX4_passHalf] at hf
  refine lv_aload_n X.1 X.2.1 dX4_passHalf_0 rfl (lv_at hl 0 rfl) ?_
  refine z_get X hK hP hiX4 9 rfl rfl 0 (by decide) (bw_in W4_8) rfl dX4_passHalf_1 ?_
  refine z_get X hK hP hiX2 0 rfl rfl 0 (by decide) (bw_in W14_15) rfl dX4_passHalf_4 ?_
  obtain ⟨w1, ew1, hf⟩ := stp_e hf
  refine z_top ew1 ?_
  refine lv_istore_n (lv' := [(3, .int w1), (0, .ref (aR 0)), (1, .int x1), (2, .int x2)]) X.1 X.2.1 dX4_passHalf_7 rfl hl (by decide) rfl (fun ls hl => ?_)
  refine lv_iload_n X.1 X.2.1 dX4_passHalf_8 rfl (lv_at hl 2 rfl) ?_
  refine lv_iload_n X.1 X.2.1 dX4_passHalf_9 rfl (lv_at hl 0 rfl) ?_
  refine lv_icmp_gt (tgt := 22) X.1 X.2.1 dX4_passHalf_10 (by decide) (fun c2 => ?_) (fun c2 => ?_)
  · have hf := ite_t hf c2
    refine lv_iconst (v := 0) X.1 X.2.1 dX4_passHalf_22 (by decide) ?_
    refine lv_istore (lv' := [(4, .int 0), (3, .int w1), (0, .ref (aR 0)), (1, .int x1), (2, .int x2)]) X.1 X.2.1 dX4_passHalf_23 hl (by decide) rfl (fun ls hl => ?_)
    refine lv_iload_n X.1 X.2.1 dX4_passHalf_25 rfl (lv_at hl 4 rfl) ?_
    refine lv_iload_n X.1 X.2.1 dX4_passHalf_26 rfl (lv_at hl 1 rfl) ?_
    refine lv_icmp_gt (tgt := 39) X.1 X.2.1 dX4_passHalf_27 (by decide) (fun c3 => ?_) (fun c3 => ?_)
    · have hf := ite_t hf c3
      refine lv_iconst (v := 0) X.1 X.2.1 dX4_passHalf_39 (by decide) ?_
      refine lv_istore (lv' := [(5, .int 0), (4, .int 0), (3, .int w1), (0, .ref (aR 0)), (1, .int x1), (2, .int x2)]) X.1 X.2.1 dX4_passHalf_40 hl (by decide) rfl (fun ls hl => ?_)
      refine lv_iload X.1 X.2.1 dX4_passHalf_42 (lv_at hl 1 rfl) ?_
      refine lv_if_ne (tgt := 54) X.1 X.2.1 dX4_passHalf_44 (by decide) (fun c => absurd c (by decide)) (fun _ => ?_)
      refine lv_iload X.1 X.2.1 dX4_passHalf_47 (lv_at hl 0 rfl) ?_
      refine lv_if_ne (tgt := 54) X.1 X.2.1 dX4_passHalf_49 (by decide) (fun c => absurd c (by decide)) (fun _ => ?_)
      refine lv_iconst (v := 0) X.1 X.2.1 dX4_passHalf_52 (by decide) ?_
      obtain ⟨rfl, rfl⟩ := z_inj2 hf
      exact z_iret X hr hlk hP hD hS dX4_passHalf_53
    · have hf := ite_f hf c3
      refine lv_iload_n X.1 X.2.1 dX4_passHalf_30 rfl (lv_at hl 1 rfl) ?_
      refine lv_iload_n X.1 X.2.1 dX4_passHalf_31 rfl (lv_at hl 3 rfl) ?_
      refine lv_icmp_ge (tgt := 39) X.1 X.2.1 dX4_passHalf_32 (by decide) (fun c4 => ?_) (fun c4 => ?_)
      · have hf := ite_t hf c4
        refine lv_iconst (v := 0) X.1 X.2.1 dX4_passHalf_39 (by decide) ?_
        refine lv_istore (lv' := [(5, .int 0), (4, .int 0), (3, .int w1), (0, .ref (aR 0)), (1, .int x1), (2, .int x2)]) X.1 X.2.1 dX4_passHalf_40 hl (by decide) rfl (fun ls hl => ?_)
        refine lv_iload X.1 X.2.1 dX4_passHalf_42 (lv_at hl 1 rfl) ?_
        refine lv_if_ne (tgt := 54) X.1 X.2.1 dX4_passHalf_44 (by decide) (fun c => absurd c (by decide)) (fun _ => ?_)
        refine lv_iload X.1 X.2.1 dX4_passHalf_47 (lv_at hl 0 rfl) ?_
        refine lv_if_ne (tgt := 54) X.1 X.2.1 dX4_passHalf_49 (by decide) (fun c => absurd c (by decide)) (fun _ => ?_)
        refine lv_iconst (v := 0) X.1 X.2.1 dX4_passHalf_52 (by decide) ?_
        obtain ⟨rfl, rfl⟩ := z_inj2 hf
        exact z_iret X hr hlk hP hD hS dX4_passHalf_53
      · have hf := ite_f hf c4
        refine lv_iconst (v := 1) X.1 X.2.1 dX4_passHalf_35 (by decide) ?_
        refine lv_goto (tgt := 40) X.1 X.2.1 dX4_passHalf_36 (by decide) ?_
        refine lv_istore (lv' := [(5, .int 1), (4, .int 0), (3, .int w1), (0, .ref (aR 0)), (1, .int x1), (2, .int x2)]) X.1 X.2.1 dX4_passHalf_40 hl (by decide) rfl (fun ls hl => ?_)
        refine lv_iload X.1 X.2.1 dX4_passHalf_42 (lv_at hl 1 rfl) ?_
        refine lv_if_ne (tgt := 54) X.1 X.2.1 dX4_passHalf_44 (by decide) (fun c => absurd c (by decide)) (fun _ => ?_)
        refine lv_iload X.1 X.2.1 dX4_passHalf_47 (lv_at hl 0 rfl) ?_
        refine lv_if_ne (tgt := 54) X.1 X.2.1 dX4_passHalf_49 (by decide) (fun _ => ?_) (fun c => absurd c (by decide))
        refine lv_aload_n X.1 X.2.1 dX4_passHalf_54 rfl (lv_at hl 3 rfl) ?_
        refine z_get X hK hP hiX4 9 rfl rfl 1 (by decide) (bw_in W3_21) rfl dX4_passHalf_55 ?_
        refine lv_aload_n X.1 X.2.1 dX4_passHalf_58 rfl (lv_at hl 3 rfl) ?_
        refine z_get X hK hP hiX4 9 rfl rfl 9 (by decide) (bw_in W4_5) rfl dX4_passHalf_59 ?_
        refine lv_iconst (v := 1) X.1 X.2.1 dX4_passHalf_62 (by decide) ?_
        refine lv_isub X.1 X.2.1 dX4_passHalf_63 ?_
        obtain ⟨hi6, hf⟩ := chk_e hf
        obtain ⟨v5, ev5, hf⟩ := stp_e hf
        refine z_iald X hK hP 10 rfl hi6 ev5 dX4_passHalf_64 ?_
        refine lv_iload X.1 X.2.1 dX4_passHalf_65 (lv_at hl 1 rfl) ?_
        refine lv_if_eq (tgt := 76) X.1 X.2.1 dX4_passHalf_67 (by decide) (fun _ => ?_) (fun c => absurd c (by decide))
        refine lv_iload_n X.1 X.2.1 dX4_passHalf_76 rfl (lv_at hl 4 rfl) ?_
        refine lv_iload_n X.1 X.2.1 dX4_passHalf_77 rfl (lv_at hl 2 rfl) ?_
        refine lv_isub X.1 X.2.1 dX4_passHalf_78 ?_
        refine lv_iconst (v := 1) X.1 X.2.1 dX4_passHalf_79 (by decide) ?_
        refine lv_isub X.1 X.2.1 dX4_passHalf_80 ?_
        refine lv_iadd X.1 X.2.1 dX4_passHalf_81 ?_
        obtain ⟨w7, ew7, hf⟩ := stp_e hf
        refine z_top ew7 ?_
        refine lv_istore (lv' := [(6, .int w7), (5, .int 1), (4, .int 0), (3, .int w1), (0, .ref (aR 0)), (1, .int x1), (2, .int x2)]) X.1 X.2.1 dX4_passHalf_82 hl (by decide) rfl (fun ls hl => ?_)
        refine lv_aload_n X.1 X.2.1 dX4_passHalf_84 rfl (lv_at hl 4 rfl) ?_
        refine lv_iload X.1 X.2.1 dX4_passHalf_85 (lv_at hl 0 rfl) ?_
        obtain ⟨r8, hc9, hf⟩ := bd1_e hf
        refine z_V (n := 1) (As := [.int w7]) (rest := []) (ci := 4) (q0 := 9) X hK hN (kX4_waitingBy l D K aH aR h0 r0 _ w7 r8 hc9) (bw_V W14_16 W14_17 W14_18 W1_22 W14_19) rfl ⟨rfl, rfl⟩ (by decide +kernel) rfl ⟨Nat.le_of_ble_eq_true rfl, Nat.le_of_ble_eq_true rfl⟩ hP hD rfl rfl (zj_same hD hS hA) hS hl.1 rfl (Nat.le_of_ble_eq_true rfl) dX4_passHalf_87 ⟨Nat.zero_le _, Nat.zero_le _⟩ rfl (fun H locs hP hD hS => ?_)
        refine lv_istore (lv' := [(7, .int r8), (6, .int w7), (5, .int 1), (4, .int 0), (3, .int w1), (0, .ref (aR 0)), (1, .int x1), (2, .int x2)]) X.1 X.2.1 dX4_passHalf_90 hl (by decide) rfl (fun ls hl => ?_)
        refine lv_iload X.1 X.2.1 dX4_passHalf_92 (lv_at hl 0 rfl) ?_
        refine lv_if_ne (tgt := 99) X.1 X.2.1 dX4_passHalf_94 (by decide) (fun c10 => ?_) (fun c10 => ?_)
        · have hf := ite_f hf c10
          refine lv_aload_n X.1 X.2.1 dX4_passHalf_99 rfl (lv_at hl 5 rfl) ?_
          refine lv_iload X.1 X.2.1 dX4_passHalf_100 (lv_at hl 1 rfl) ?_
          refine lv_iconst (v := 1) X.1 X.2.1 dX4_passHalf_102 (by decide) ?_
          refine lv_iadd X.1 X.2.1 dX4_passHalf_103 ?_
          refine lv_iconst (v := 2) X.1 X.2.1 dX4_passHalf_104 (by decide) ?_
          refine lv_iload_n X.1 X.2.1 dX4_passHalf_105 rfl (lv_at hl 4 rfl) ?_
          refine lv_imul X.1 X.2.1 dX4_passHalf_106 ?_
          refine lv_iconst (v := 1) X.1 X.2.1 dX4_passHalf_107 (by decide) ?_
          refine lv_iadd X.1 X.2.1 dX4_passHalf_108 ?_
          obtain ⟨r11, hc12, hf⟩ := bd1_e hf
          refine z_V (n := 2) (As := [.int (w7 + 1), .int (((2 : Int32) * w1) + 1)]) (rest := []) (ci := 4) (q0 := 9) X hK hN (kX4_addRow l D K aH aR h0 r0 _ (w7 + 1) (((2 : Int32) * w1) + 1) r11 hc12) (bw_V W14_21 W14_22 W14_23 W1_22 W15_0) rfl ⟨rfl, rfl⟩ (by decide +kernel) rfl ⟨Nat.le_of_ble_eq_true rfl, Nat.le_of_ble_eq_true rfl⟩ hP hD rfl rfl (zj_same hD hS hA) hS hl.1 rfl (Nat.le_of_ble_eq_true rfl) dX4_passHalf_109 ⟨Nat.zero_le _, Nat.zero_le _⟩ rfl (fun H locs hP hD hS => ?_)
          refine lv_aload_n X.1 X.2.1 dX4_passHalf_112 rfl (lv_at hl 5 rfl) ?_
          refine lv_iload X.1 X.2.1 dX4_passHalf_113 (lv_at hl 0 rfl) ?_
          obtain ⟨r13, hc14, hf⟩ := bd1_e hf
          refine z_V (n := 1) (As := [.int r8]) (rest := []) (ci := 4) (q0 := 9) X hK hN (kX4_letAbsencesIn l D K aH aR h0 r11 _ r8 r13 hc14) (bw_V W15_1 W15_2 W15_3 W1_22 W15_4) rfl ⟨rfl, rfl⟩ (by decide +kernel) rfl ⟨Nat.le_of_ble_eq_true rfl, Nat.le_of_ble_eq_true rfl⟩ hP hD rfl rfl (zj_same hD hS hA) hS hl.1 rfl (Nat.le_of_ble_eq_true rfl) dX4_passHalf_115 ⟨Nat.zero_le _, Nat.zero_le _⟩ rfl (fun H locs hP hD hS => ?_)
          refine lv_iconst (v := 1) X.1 X.2.1 dX4_passHalf_118 (by decide) ?_
          obtain ⟨rfl, rfl⟩ := z_inj2 hf
          exact z_iret X hr hlk hP hD hS dX4_passHalf_119
        · have hf := ite_t hf c10
          refine lv_iconst (v := 0) X.1 X.2.1 dX4_passHalf_97 (by decide) ?_
          obtain ⟨rfl, rfl⟩ := z_inj2 hf
          exact z_iret X hr hlk hP hD hS dX4_passHalf_98
  · have hf := ite_f hf c2
    refine lv_iload_n X.1 X.2.1 dX4_passHalf_13 rfl (lv_at hl 0 rfl) ?_
    refine lv_iload_n X.1 X.2.1 dX4_passHalf_14 rfl (lv_at hl 3 rfl) ?_
    refine lv_icmp_ge (tgt := 22) X.1 X.2.1 dX4_passHalf_15 (by decide) (fun c15 => ?_) (fun c15 => ?_)
    · have hf := ite_t hf c15
      refine lv_iconst (v := 0) X.1 X.2.1 dX4_passHalf_22 (by decide) ?_
      refine lv_istore (lv' := [(4, .int 0), (3, .int w1), (0, .ref (aR 0)), (1, .int x1), (2, .int x2)]) X.1 X.2.1 dX4_passHalf_23 hl (by decide) rfl (fun ls hl => ?_)
      refine lv_iload_n X.1 X.2.1 dX4_passHalf_25 rfl (lv_at hl 4 rfl) ?_
      refine lv_iload_n X.1 X.2.1 dX4_passHalf_26 rfl (lv_at hl 1 rfl) ?_
      refine lv_icmp_gt (tgt := 39) X.1 X.2.1 dX4_passHalf_27 (by decide) (fun c16 => ?_) (fun c16 => ?_)
      · have hf := ite_t hf c16
        refine lv_iconst (v := 0) X.1 X.2.1 dX4_passHalf_39 (by decide) ?_
        refine lv_istore (lv' := [(5, .int 0), (4, .int 0), (3, .int w1), (0, .ref (aR 0)), (1, .int x1), (2, .int x2)]) X.1 X.2.1 dX4_passHalf_40 hl (by decide) rfl (fun ls hl => ?_)
        refine lv_iload X.1 X.2.1 dX4_passHalf_42 (lv_at hl 1 rfl) ?_
        refine lv_if_ne (tgt := 54) X.1 X.2.1 dX4_passHalf_44 (by decide) (fun c => absurd c (by decide)) (fun _ => ?_)
        refine lv_iload X.1 X.2.1 dX4_passHalf_47 (lv_at hl 0 rfl) ?_
        refine lv_if_ne (tgt := 54) X.1 X.2.1 dX4_passHalf_49 (by decide) (fun c => absurd c (by decide)) (fun _ => ?_)
        refine lv_iconst (v := 0) X.1 X.2.1 dX4_passHalf_52 (by decide) ?_
        obtain ⟨rfl, rfl⟩ := z_inj2 hf
        exact z_iret X hr hlk hP hD hS dX4_passHalf_53
      · have hf := ite_f hf c16
        refine lv_iload_n X.1 X.2.1 dX4_passHalf_30 rfl (lv_at hl 1 rfl) ?_
        refine lv_iload_n X.1 X.2.1 dX4_passHalf_31 rfl (lv_at hl 3 rfl) ?_
        refine lv_icmp_ge (tgt := 39) X.1 X.2.1 dX4_passHalf_32 (by decide) (fun c17 => ?_) (fun c17 => ?_)
        · have hf := ite_t hf c17
          refine lv_iconst (v := 0) X.1 X.2.1 dX4_passHalf_39 (by decide) ?_
          refine lv_istore (lv' := [(5, .int 0), (4, .int 0), (3, .int w1), (0, .ref (aR 0)), (1, .int x1), (2, .int x2)]) X.1 X.2.1 dX4_passHalf_40 hl (by decide) rfl (fun ls hl => ?_)
          refine lv_iload X.1 X.2.1 dX4_passHalf_42 (lv_at hl 1 rfl) ?_
          refine lv_if_ne (tgt := 54) X.1 X.2.1 dX4_passHalf_44 (by decide) (fun c => absurd c (by decide)) (fun _ => ?_)
          refine lv_iload X.1 X.2.1 dX4_passHalf_47 (lv_at hl 0 rfl) ?_
          refine lv_if_ne (tgt := 54) X.1 X.2.1 dX4_passHalf_49 (by decide) (fun c => absurd c (by decide)) (fun _ => ?_)
          refine lv_iconst (v := 0) X.1 X.2.1 dX4_passHalf_52 (by decide) ?_
          obtain ⟨rfl, rfl⟩ := z_inj2 hf
          exact z_iret X hr hlk hP hD hS dX4_passHalf_53
        · have hf := ite_f hf c17
          refine lv_iconst (v := 1) X.1 X.2.1 dX4_passHalf_35 (by decide) ?_
          refine lv_goto (tgt := 40) X.1 X.2.1 dX4_passHalf_36 (by decide) ?_
          refine lv_istore (lv' := [(5, .int 1), (4, .int 0), (3, .int w1), (0, .ref (aR 0)), (1, .int x1), (2, .int x2)]) X.1 X.2.1 dX4_passHalf_40 hl (by decide) rfl (fun ls hl => ?_)
          refine lv_iload X.1 X.2.1 dX4_passHalf_42 (lv_at hl 1 rfl) ?_
          refine lv_if_ne (tgt := 54) X.1 X.2.1 dX4_passHalf_44 (by decide) (fun c => absurd c (by decide)) (fun _ => ?_)
          refine lv_iload X.1 X.2.1 dX4_passHalf_47 (lv_at hl 0 rfl) ?_
          refine lv_if_ne (tgt := 54) X.1 X.2.1 dX4_passHalf_49 (by decide) (fun _ => ?_) (fun c => absurd c (by decide))
          refine lv_aload_n X.1 X.2.1 dX4_passHalf_54 rfl (lv_at hl 3 rfl) ?_
          refine z_get X hK hP hiX4 9 rfl rfl 1 (by decide) (bw_in W3_21) rfl dX4_passHalf_55 ?_
          refine lv_aload_n X.1 X.2.1 dX4_passHalf_58 rfl (lv_at hl 3 rfl) ?_
          refine z_get X hK hP hiX4 9 rfl rfl 9 (by decide) (bw_in W4_5) rfl dX4_passHalf_59 ?_
          refine lv_iconst (v := 1) X.1 X.2.1 dX4_passHalf_62 (by decide) ?_
          refine lv_isub X.1 X.2.1 dX4_passHalf_63 ?_
          obtain ⟨hi19, hf⟩ := chk_e hf
          obtain ⟨v18, ev18, hf⟩ := stp_e hf
          refine z_iald X hK hP 10 rfl hi19 ev18 dX4_passHalf_64 ?_
          refine lv_iload X.1 X.2.1 dX4_passHalf_65 (lv_at hl 1 rfl) ?_
          refine lv_if_eq (tgt := 76) X.1 X.2.1 dX4_passHalf_67 (by decide) (fun _ => ?_) (fun c => absurd c (by decide))
          refine lv_iload_n X.1 X.2.1 dX4_passHalf_76 rfl (lv_at hl 4 rfl) ?_
          refine lv_iload_n X.1 X.2.1 dX4_passHalf_77 rfl (lv_at hl 2 rfl) ?_
          refine lv_isub X.1 X.2.1 dX4_passHalf_78 ?_
          refine lv_iconst (v := 1) X.1 X.2.1 dX4_passHalf_79 (by decide) ?_
          refine lv_isub X.1 X.2.1 dX4_passHalf_80 ?_
          refine lv_iadd X.1 X.2.1 dX4_passHalf_81 ?_
          obtain ⟨w20, ew20, hf⟩ := stp_e hf
          refine z_top ew20 ?_
          refine lv_istore (lv' := [(6, .int w20), (5, .int 1), (4, .int 0), (3, .int w1), (0, .ref (aR 0)), (1, .int x1), (2, .int x2)]) X.1 X.2.1 dX4_passHalf_82 hl (by decide) rfl (fun ls hl => ?_)
          refine lv_aload_n X.1 X.2.1 dX4_passHalf_84 rfl (lv_at hl 4 rfl) ?_
          refine lv_iload X.1 X.2.1 dX4_passHalf_85 (lv_at hl 0 rfl) ?_
          obtain ⟨r21, hc22, hf⟩ := bd1_e hf
          refine z_V (n := 1) (As := [.int w20]) (rest := []) (ci := 4) (q0 := 9) X hK hN (kX4_waitingBy l D K aH aR h0 r0 _ w20 r21 hc22) (bw_V W14_16 W14_17 W14_18 W1_22 W14_19) rfl ⟨rfl, rfl⟩ (by decide +kernel) rfl ⟨Nat.le_of_ble_eq_true rfl, Nat.le_of_ble_eq_true rfl⟩ hP hD rfl rfl (zj_same hD hS hA) hS hl.1 rfl (Nat.le_of_ble_eq_true rfl) dX4_passHalf_87 ⟨Nat.zero_le _, Nat.zero_le _⟩ rfl (fun H locs hP hD hS => ?_)
          refine lv_istore (lv' := [(7, .int r21), (6, .int w20), (5, .int 1), (4, .int 0), (3, .int w1), (0, .ref (aR 0)), (1, .int x1), (2, .int x2)]) X.1 X.2.1 dX4_passHalf_90 hl (by decide) rfl (fun ls hl => ?_)
          refine lv_iload X.1 X.2.1 dX4_passHalf_92 (lv_at hl 0 rfl) ?_
          refine lv_if_ne (tgt := 99) X.1 X.2.1 dX4_passHalf_94 (by decide) (fun c23 => ?_) (fun c23 => ?_)
          · have hf := ite_f hf c23
            refine lv_aload_n X.1 X.2.1 dX4_passHalf_99 rfl (lv_at hl 5 rfl) ?_
            refine lv_iload X.1 X.2.1 dX4_passHalf_100 (lv_at hl 1 rfl) ?_
            refine lv_iconst (v := 1) X.1 X.2.1 dX4_passHalf_102 (by decide) ?_
            refine lv_iadd X.1 X.2.1 dX4_passHalf_103 ?_
            refine lv_iconst (v := 2) X.1 X.2.1 dX4_passHalf_104 (by decide) ?_
            refine lv_iload_n X.1 X.2.1 dX4_passHalf_105 rfl (lv_at hl 4 rfl) ?_
            refine lv_imul X.1 X.2.1 dX4_passHalf_106 ?_
            refine lv_iconst (v := 1) X.1 X.2.1 dX4_passHalf_107 (by decide) ?_
            refine lv_iadd X.1 X.2.1 dX4_passHalf_108 ?_
            obtain ⟨r24, hc25, hf⟩ := bd1_e hf
            refine z_V (n := 2) (As := [.int (w20 + 1), .int (((2 : Int32) * w1) + 1)]) (rest := []) (ci := 4) (q0 := 9) X hK hN (kX4_addRow l D K aH aR h0 r0 _ (w20 + 1) (((2 : Int32) * w1) + 1) r24 hc25) (bw_V W14_21 W14_22 W14_23 W1_22 W15_0) rfl ⟨rfl, rfl⟩ (by decide +kernel) rfl ⟨Nat.le_of_ble_eq_true rfl, Nat.le_of_ble_eq_true rfl⟩ hP hD rfl rfl (zj_same hD hS hA) hS hl.1 rfl (Nat.le_of_ble_eq_true rfl) dX4_passHalf_109 ⟨Nat.zero_le _, Nat.zero_le _⟩ rfl (fun H locs hP hD hS => ?_)
            refine lv_aload_n X.1 X.2.1 dX4_passHalf_112 rfl (lv_at hl 5 rfl) ?_
            refine lv_iload X.1 X.2.1 dX4_passHalf_113 (lv_at hl 0 rfl) ?_
            obtain ⟨r26, hc27, hf⟩ := bd1_e hf
            refine z_V (n := 1) (As := [.int r21]) (rest := []) (ci := 4) (q0 := 9) X hK hN (kX4_letAbsencesIn l D K aH aR h0 r24 _ r21 r26 hc27) (bw_V W15_1 W15_2 W15_3 W1_22 W15_4) rfl ⟨rfl, rfl⟩ (by decide +kernel) rfl ⟨Nat.le_of_ble_eq_true rfl, Nat.le_of_ble_eq_true rfl⟩ hP hD rfl rfl (zj_same hD hS hA) hS hl.1 rfl (Nat.le_of_ble_eq_true rfl) dX4_passHalf_115 ⟨Nat.zero_le _, Nat.zero_le _⟩ rfl (fun H locs hP hD hS => ?_)
            refine lv_iconst (v := 1) X.1 X.2.1 dX4_passHalf_118 (by decide) ?_
            obtain ⟨rfl, rfl⟩ := z_inj2 hf
            exact z_iret X hr hlk hP hD hS dX4_passHalf_119
          · have hf := ite_t hf c23
            refine lv_iconst (v := 0) X.1 X.2.1 dX4_passHalf_97 (by decide) ?_
            obtain ⟨rfl, rfl⟩ := z_inj2 hf
            exact z_iret X hr hlk hP hD hS dX4_passHalf_98
    · have hf := ite_f hf c15
      refine lv_iconst (v := 1) X.1 X.2.1 dX4_passHalf_18 (by decide) ?_
      refine lv_goto (tgt := 23) X.1 X.2.1 dX4_passHalf_19 (by decide) ?_
      refine lv_istore (lv' := [(4, .int 1), (3, .int w1), (0, .ref (aR 0)), (1, .int x1), (2, .int x2)]) X.1 X.2.1 dX4_passHalf_23 hl (by decide) rfl (fun ls hl => ?_)
      refine lv_iload_n X.1 X.2.1 dX4_passHalf_25 rfl (lv_at hl 4 rfl) ?_
      refine lv_iload_n X.1 X.2.1 dX4_passHalf_26 rfl (lv_at hl 1 rfl) ?_
      refine lv_icmp_gt (tgt := 39) X.1 X.2.1 dX4_passHalf_27 (by decide) (fun c28 => ?_) (fun c28 => ?_)
      · have hf := ite_t hf c28
        refine lv_iconst (v := 0) X.1 X.2.1 dX4_passHalf_39 (by decide) ?_
        refine lv_istore (lv' := [(5, .int 0), (4, .int 1), (3, .int w1), (0, .ref (aR 0)), (1, .int x1), (2, .int x2)]) X.1 X.2.1 dX4_passHalf_40 hl (by decide) rfl (fun ls hl => ?_)
        refine lv_iload X.1 X.2.1 dX4_passHalf_42 (lv_at hl 1 rfl) ?_
        refine lv_if_ne (tgt := 54) X.1 X.2.1 dX4_passHalf_44 (by decide) (fun _ => ?_) (fun c => absurd c (by decide))
        refine lv_aload_n X.1 X.2.1 dX4_passHalf_54 rfl (lv_at hl 3 rfl) ?_
        refine z_get X hK hP hiX4 9 rfl rfl 1 (by decide) (bw_in W3_21) rfl dX4_passHalf_55 ?_
        refine lv_aload_n X.1 X.2.1 dX4_passHalf_58 rfl (lv_at hl 3 rfl) ?_
        refine z_get X hK hP hiX4 9 rfl rfl 9 (by decide) (bw_in W4_5) rfl dX4_passHalf_59 ?_
        refine lv_iconst (v := 1) X.1 X.2.1 dX4_passHalf_62 (by decide) ?_
        refine lv_isub X.1 X.2.1 dX4_passHalf_63 ?_
        obtain ⟨hi30, hf⟩ := chk_e hf
        obtain ⟨v29, ev29, hf⟩ := stp_e hf
        refine z_iald X hK hP 10 rfl hi30 ev29 dX4_passHalf_64 ?_
        refine lv_iload X.1 X.2.1 dX4_passHalf_65 (lv_at hl 1 rfl) ?_
        refine lv_if_eq (tgt := 76) X.1 X.2.1 dX4_passHalf_67 (by decide) (fun c => absurd c (by decide)) (fun _ => ?_)
        refine lv_iload_n X.1 X.2.1 dX4_passHalf_70 rfl (lv_at hl 2 rfl) ?_
        refine lv_iload_n X.1 X.2.1 dX4_passHalf_71 rfl (lv_at hl 4 rfl) ?_
        refine lv_isub X.1 X.2.1 dX4_passHalf_72 ?_
        refine lv_goto (tgt := 81) X.1 X.2.1 dX4_passHalf_73 (by decide) ?_
        refine lv_iadd X.1 X.2.1 dX4_passHalf_81 ?_
        obtain ⟨w31, ew31, hf⟩ := stp_e hf
        refine z_top ew31 ?_
        refine lv_istore (lv' := [(6, .int w31), (5, .int 0), (4, .int 1), (3, .int w1), (0, .ref (aR 0)), (1, .int x1), (2, .int x2)]) X.1 X.2.1 dX4_passHalf_82 hl (by decide) rfl (fun ls hl => ?_)
        refine lv_aload_n X.1 X.2.1 dX4_passHalf_84 rfl (lv_at hl 4 rfl) ?_
        refine lv_iload X.1 X.2.1 dX4_passHalf_85 (lv_at hl 0 rfl) ?_
        obtain ⟨r32, hc33, hf⟩ := bd1_e hf
        refine z_V (n := 1) (As := [.int w31]) (rest := []) (ci := 4) (q0 := 9) X hK hN (kX4_waitingBy l D K aH aR h0 r0 _ w31 r32 hc33) (bw_V W14_16 W14_17 W14_18 W1_22 W14_19) rfl ⟨rfl, rfl⟩ (by decide +kernel) rfl ⟨Nat.le_of_ble_eq_true rfl, Nat.le_of_ble_eq_true rfl⟩ hP hD rfl rfl (zj_same hD hS hA) hS hl.1 rfl (Nat.le_of_ble_eq_true rfl) dX4_passHalf_87 ⟨Nat.zero_le _, Nat.zero_le _⟩ rfl (fun H locs hP hD hS => ?_)
        refine lv_istore (lv' := [(7, .int r32), (6, .int w31), (5, .int 0), (4, .int 1), (3, .int w1), (0, .ref (aR 0)), (1, .int x1), (2, .int x2)]) X.1 X.2.1 dX4_passHalf_90 hl (by decide) rfl (fun ls hl => ?_)
        refine lv_iload X.1 X.2.1 dX4_passHalf_92 (lv_at hl 0 rfl) ?_
        refine lv_if_ne (tgt := 99) X.1 X.2.1 dX4_passHalf_94 (by decide) (fun c34 => ?_) (fun c34 => ?_)
        · have hf := ite_f hf c34
          refine lv_aload_n X.1 X.2.1 dX4_passHalf_99 rfl (lv_at hl 5 rfl) ?_
          refine lv_iload X.1 X.2.1 dX4_passHalf_100 (lv_at hl 1 rfl) ?_
          refine lv_iconst (v := 1) X.1 X.2.1 dX4_passHalf_102 (by decide) ?_
          refine lv_iadd X.1 X.2.1 dX4_passHalf_103 ?_
          refine lv_iconst (v := 2) X.1 X.2.1 dX4_passHalf_104 (by decide) ?_
          refine lv_iload_n X.1 X.2.1 dX4_passHalf_105 rfl (lv_at hl 4 rfl) ?_
          refine lv_imul X.1 X.2.1 dX4_passHalf_106 ?_
          refine lv_iconst (v := 1) X.1 X.2.1 dX4_passHalf_107 (by decide) ?_
          refine lv_iadd X.1 X.2.1 dX4_passHalf_108 ?_
          obtain ⟨r35, hc36, hf⟩ := bd1_e hf
          refine z_V (n := 2) (As := [.int (w31 + 1), .int (((2 : Int32) * w1) + 1)]) (rest := []) (ci := 4) (q0 := 9) X hK hN (kX4_addRow l D K aH aR h0 r0 _ (w31 + 1) (((2 : Int32) * w1) + 1) r35 hc36) (bw_V W14_21 W14_22 W14_23 W1_22 W15_0) rfl ⟨rfl, rfl⟩ (by decide +kernel) rfl ⟨Nat.le_of_ble_eq_true rfl, Nat.le_of_ble_eq_true rfl⟩ hP hD rfl rfl (zj_same hD hS hA) hS hl.1 rfl (Nat.le_of_ble_eq_true rfl) dX4_passHalf_109 ⟨Nat.zero_le _, Nat.zero_le _⟩ rfl (fun H locs hP hD hS => ?_)
          refine lv_aload_n X.1 X.2.1 dX4_passHalf_112 rfl (lv_at hl 5 rfl) ?_
          refine lv_iload X.1 X.2.1 dX4_passHalf_113 (lv_at hl 0 rfl) ?_
          obtain ⟨r37, hc38, hf⟩ := bd1_e hf
          refine z_V (n := 1) (As := [.int r32]) (rest := []) (ci := 4) (q0 := 9) X hK hN (kX4_letAbsencesIn l D K aH aR h0 r35 _ r32 r37 hc38) (bw_V W15_1 W15_2 W15_3 W1_22 W15_4) rfl ⟨rfl, rfl⟩ (by decide +kernel) rfl ⟨Nat.le_of_ble_eq_true rfl, Nat.le_of_ble_eq_true rfl⟩ hP hD rfl rfl (zj_same hD hS hA) hS hl.1 rfl (Nat.le_of_ble_eq_true rfl) dX4_passHalf_115 ⟨Nat.zero_le _, Nat.zero_le _⟩ rfl (fun H locs hP hD hS => ?_)
          refine lv_iconst (v := 1) X.1 X.2.1 dX4_passHalf_118 (by decide) ?_
          obtain ⟨rfl, rfl⟩ := z_inj2 hf
          exact z_iret X hr hlk hP hD hS dX4_passHalf_119
        · have hf := ite_t hf c34
          refine lv_iconst (v := 0) X.1 X.2.1 dX4_passHalf_97 (by decide) ?_
          obtain ⟨rfl, rfl⟩ := z_inj2 hf
          exact z_iret X hr hlk hP hD hS dX4_passHalf_98
      · have hf := ite_f hf c28
        refine lv_iload_n X.1 X.2.1 dX4_passHalf_30 rfl (lv_at hl 1 rfl) ?_
        refine lv_iload_n X.1 X.2.1 dX4_passHalf_31 rfl (lv_at hl 3 rfl) ?_
        refine lv_icmp_ge (tgt := 39) X.1 X.2.1 dX4_passHalf_32 (by decide) (fun c39 => ?_) (fun c39 => ?_)
        · have hf := ite_t hf c39
          refine lv_iconst (v := 0) X.1 X.2.1 dX4_passHalf_39 (by decide) ?_
          refine lv_istore (lv' := [(5, .int 0), (4, .int 1), (3, .int w1), (0, .ref (aR 0)), (1, .int x1), (2, .int x2)]) X.1 X.2.1 dX4_passHalf_40 hl (by decide) rfl (fun ls hl => ?_)
          refine lv_iload X.1 X.2.1 dX4_passHalf_42 (lv_at hl 1 rfl) ?_
          refine lv_if_ne (tgt := 54) X.1 X.2.1 dX4_passHalf_44 (by decide) (fun _ => ?_) (fun c => absurd c (by decide))
          refine lv_aload_n X.1 X.2.1 dX4_passHalf_54 rfl (lv_at hl 3 rfl) ?_
          refine z_get X hK hP hiX4 9 rfl rfl 1 (by decide) (bw_in W3_21) rfl dX4_passHalf_55 ?_
          refine lv_aload_n X.1 X.2.1 dX4_passHalf_58 rfl (lv_at hl 3 rfl) ?_
          refine z_get X hK hP hiX4 9 rfl rfl 9 (by decide) (bw_in W4_5) rfl dX4_passHalf_59 ?_
          refine lv_iconst (v := 1) X.1 X.2.1 dX4_passHalf_62 (by decide) ?_
          refine lv_isub X.1 X.2.1 dX4_passHalf_63 ?_
          obtain ⟨hi41, hf⟩ := chk_e hf
          obtain ⟨v40, ev40, hf⟩ := stp_e hf
          refine z_iald X hK hP 10 rfl hi41 ev40 dX4_passHalf_64 ?_
          refine lv_iload X.1 X.2.1 dX4_passHalf_65 (lv_at hl 1 rfl) ?_
          refine lv_if_eq (tgt := 76) X.1 X.2.1 dX4_passHalf_67 (by decide) (fun c => absurd c (by decide)) (fun _ => ?_)
          refine lv_iload_n X.1 X.2.1 dX4_passHalf_70 rfl (lv_at hl 2 rfl) ?_
          refine lv_iload_n X.1 X.2.1 dX4_passHalf_71 rfl (lv_at hl 4 rfl) ?_
          refine lv_isub X.1 X.2.1 dX4_passHalf_72 ?_
          refine lv_goto (tgt := 81) X.1 X.2.1 dX4_passHalf_73 (by decide) ?_
          refine lv_iadd X.1 X.2.1 dX4_passHalf_81 ?_
          obtain ⟨w42, ew42, hf⟩ := stp_e hf
          refine z_top ew42 ?_
          refine lv_istore (lv' := [(6, .int w42), (5, .int 0), (4, .int 1), (3, .int w1), (0, .ref (aR 0)), (1, .int x1), (2, .int x2)]) X.1 X.2.1 dX4_passHalf_82 hl (by decide) rfl (fun ls hl => ?_)
          refine lv_aload_n X.1 X.2.1 dX4_passHalf_84 rfl (lv_at hl 4 rfl) ?_
          refine lv_iload X.1 X.2.1 dX4_passHalf_85 (lv_at hl 0 rfl) ?_
          obtain ⟨r43, hc44, hf⟩ := bd1_e hf
          refine z_V (n := 1) (As := [.int w42]) (rest := []) (ci := 4) (q0 := 9) X hK hN (kX4_waitingBy l D K aH aR h0 r0 _ w42 r43 hc44) (bw_V W14_16 W14_17 W14_18 W1_22 W14_19) rfl ⟨rfl, rfl⟩ (by decide +kernel) rfl ⟨Nat.le_of_ble_eq_true rfl, Nat.le_of_ble_eq_true rfl⟩ hP hD rfl rfl (zj_same hD hS hA) hS hl.1 rfl (Nat.le_of_ble_eq_true rfl) dX4_passHalf_87 ⟨Nat.zero_le _, Nat.zero_le _⟩ rfl (fun H locs hP hD hS => ?_)
          refine lv_istore (lv' := [(7, .int r43), (6, .int w42), (5, .int 0), (4, .int 1), (3, .int w1), (0, .ref (aR 0)), (1, .int x1), (2, .int x2)]) X.1 X.2.1 dX4_passHalf_90 hl (by decide) rfl (fun ls hl => ?_)
          refine lv_iload X.1 X.2.1 dX4_passHalf_92 (lv_at hl 0 rfl) ?_
          refine lv_if_ne (tgt := 99) X.1 X.2.1 dX4_passHalf_94 (by decide) (fun c45 => ?_) (fun c45 => ?_)
          · have hf := ite_f hf c45
            refine lv_aload_n X.1 X.2.1 dX4_passHalf_99 rfl (lv_at hl 5 rfl) ?_
            refine lv_iload X.1 X.2.1 dX4_passHalf_100 (lv_at hl 1 rfl) ?_
            refine lv_iconst (v := 1) X.1 X.2.1 dX4_passHalf_102 (by decide) ?_
            refine lv_iadd X.1 X.2.1 dX4_passHalf_103 ?_
            refine lv_iconst (v := 2) X.1 X.2.1 dX4_passHalf_104 (by decide) ?_
            refine lv_iload_n X.1 X.2.1 dX4_passHalf_105 rfl (lv_at hl 4 rfl) ?_
            refine lv_imul X.1 X.2.1 dX4_passHalf_106 ?_
            refine lv_iconst (v := 1) X.1 X.2.1 dX4_passHalf_107 (by decide) ?_
            refine lv_iadd X.1 X.2.1 dX4_passHalf_108 ?_
            obtain ⟨r46, hc47, hf⟩ := bd1_e hf
            refine z_V (n := 2) (As := [.int (w42 + 1), .int (((2 : Int32) * w1) + 1)]) (rest := []) (ci := 4) (q0 := 9) X hK hN (kX4_addRow l D K aH aR h0 r0 _ (w42 + 1) (((2 : Int32) * w1) + 1) r46 hc47) (bw_V W14_21 W14_22 W14_23 W1_22 W15_0) rfl ⟨rfl, rfl⟩ (by decide +kernel) rfl ⟨Nat.le_of_ble_eq_true rfl, Nat.le_of_ble_eq_true rfl⟩ hP hD rfl rfl (zj_same hD hS hA) hS hl.1 rfl (Nat.le_of_ble_eq_true rfl) dX4_passHalf_109 ⟨Nat.zero_le _, Nat.zero_le _⟩ rfl (fun H locs hP hD hS => ?_)
            refine lv_aload_n X.1 X.2.1 dX4_passHalf_112 rfl (lv_at hl 5 rfl) ?_
            refine lv_iload X.1 X.2.1 dX4_passHalf_113 (lv_at hl 0 rfl) ?_
            obtain ⟨r48, hc49, hf⟩ := bd1_e hf
            refine z_V (n := 1) (As := [.int r43]) (rest := []) (ci := 4) (q0 := 9) X hK hN (kX4_letAbsencesIn l D K aH aR h0 r46 _ r43 r48 hc49) (bw_V W15_1 W15_2 W15_3 W1_22 W15_4) rfl ⟨rfl, rfl⟩ (by decide +kernel) rfl ⟨Nat.le_of_ble_eq_true rfl, Nat.le_of_ble_eq_true rfl⟩ hP hD rfl rfl (zj_same hD hS hA) hS hl.1 rfl (Nat.le_of_ble_eq_true rfl) dX4_passHalf_115 ⟨Nat.zero_le _, Nat.zero_le _⟩ rfl (fun H locs hP hD hS => ?_)
            refine lv_iconst (v := 1) X.1 X.2.1 dX4_passHalf_118 (by decide) ?_
            obtain ⟨rfl, rfl⟩ := z_inj2 hf
            exact z_iret X hr hlk hP hD hS dX4_passHalf_119
          · have hf := ite_t hf c45
            refine lv_iconst (v := 0) X.1 X.2.1 dX4_passHalf_97 (by decide) ?_
            obtain ⟨rfl, rfl⟩ := z_inj2 hf
            exact z_iret X hr hlk hP hD hS dX4_passHalf_98
        · have hf := ite_f hf c39
          refine lv_iconst (v := 1) X.1 X.2.1 dX4_passHalf_35 (by decide) ?_
          refine lv_goto (tgt := 40) X.1 X.2.1 dX4_passHalf_36 (by decide) ?_
          refine lv_istore (lv' := [(5, .int 1), (4, .int 1), (3, .int w1), (0, .ref (aR 0)), (1, .int x1), (2, .int x2)]) X.1 X.2.1 dX4_passHalf_40 hl (by decide) rfl (fun ls hl => ?_)
          refine lv_iload X.1 X.2.1 dX4_passHalf_42 (lv_at hl 1 rfl) ?_
          refine lv_if_ne (tgt := 54) X.1 X.2.1 dX4_passHalf_44 (by decide) (fun _ => ?_) (fun c => absurd c (by decide))
          refine lv_aload_n X.1 X.2.1 dX4_passHalf_54 rfl (lv_at hl 3 rfl) ?_
          refine z_get X hK hP hiX4 9 rfl rfl 1 (by decide) (bw_in W3_21) rfl dX4_passHalf_55 ?_
          refine lv_aload_n X.1 X.2.1 dX4_passHalf_58 rfl (lv_at hl 3 rfl) ?_
          refine z_get X hK hP hiX4 9 rfl rfl 9 (by decide) (bw_in W4_5) rfl dX4_passHalf_59 ?_
          refine lv_iconst (v := 1) X.1 X.2.1 dX4_passHalf_62 (by decide) ?_
          refine lv_isub X.1 X.2.1 dX4_passHalf_63 ?_
          obtain ⟨hi51, hf⟩ := chk_e hf
          obtain ⟨v50, ev50, hf⟩ := stp_e hf
          refine z_iald X hK hP 10 rfl hi51 ev50 dX4_passHalf_64 ?_
          refine lv_iload X.1 X.2.1 dX4_passHalf_65 (lv_at hl 1 rfl) ?_
          refine lv_if_eq (tgt := 76) X.1 X.2.1 dX4_passHalf_67 (by decide) (fun c => absurd c (by decide)) (fun _ => ?_)
          refine lv_iload_n X.1 X.2.1 dX4_passHalf_70 rfl (lv_at hl 2 rfl) ?_
          refine lv_iload_n X.1 X.2.1 dX4_passHalf_71 rfl (lv_at hl 4 rfl) ?_
          refine lv_isub X.1 X.2.1 dX4_passHalf_72 ?_
          refine lv_goto (tgt := 81) X.1 X.2.1 dX4_passHalf_73 (by decide) ?_
          refine lv_iadd X.1 X.2.1 dX4_passHalf_81 ?_
          obtain ⟨w52, ew52, hf⟩ := stp_e hf
          refine z_top ew52 ?_
          refine lv_istore (lv' := [(6, .int w52), (5, .int 1), (4, .int 1), (3, .int w1), (0, .ref (aR 0)), (1, .int x1), (2, .int x2)]) X.1 X.2.1 dX4_passHalf_82 hl (by decide) rfl (fun ls hl => ?_)
          refine lv_aload_n X.1 X.2.1 dX4_passHalf_84 rfl (lv_at hl 4 rfl) ?_
          refine lv_iload X.1 X.2.1 dX4_passHalf_85 (lv_at hl 0 rfl) ?_
          obtain ⟨r53, hc54, hf⟩ := bd1_e hf
          refine z_V (n := 1) (As := [.int w52]) (rest := []) (ci := 4) (q0 := 9) X hK hN (kX4_waitingBy l D K aH aR h0 r0 _ w52 r53 hc54) (bw_V W14_16 W14_17 W14_18 W1_22 W14_19) rfl ⟨rfl, rfl⟩ (by decide +kernel) rfl ⟨Nat.le_of_ble_eq_true rfl, Nat.le_of_ble_eq_true rfl⟩ hP hD rfl rfl (zj_same hD hS hA) hS hl.1 rfl (Nat.le_of_ble_eq_true rfl) dX4_passHalf_87 ⟨Nat.zero_le _, Nat.zero_le _⟩ rfl (fun H locs hP hD hS => ?_)
          refine lv_istore (lv' := [(7, .int r53), (6, .int w52), (5, .int 1), (4, .int 1), (3, .int w1), (0, .ref (aR 0)), (1, .int x1), (2, .int x2)]) X.1 X.2.1 dX4_passHalf_90 hl (by decide) rfl (fun ls hl => ?_)
          refine lv_iload X.1 X.2.1 dX4_passHalf_92 (lv_at hl 0 rfl) ?_
          refine lv_if_ne (tgt := 99) X.1 X.2.1 dX4_passHalf_94 (by decide) (fun c55 => ?_) (fun c55 => ?_)
          · have hf := ite_f hf c55
            refine lv_aload_n X.1 X.2.1 dX4_passHalf_99 rfl (lv_at hl 5 rfl) ?_
            refine lv_iload X.1 X.2.1 dX4_passHalf_100 (lv_at hl 1 rfl) ?_
            refine lv_iconst (v := 1) X.1 X.2.1 dX4_passHalf_102 (by decide) ?_
            refine lv_iadd X.1 X.2.1 dX4_passHalf_103 ?_
            refine lv_iconst (v := 2) X.1 X.2.1 dX4_passHalf_104 (by decide) ?_
            refine lv_iload_n X.1 X.2.1 dX4_passHalf_105 rfl (lv_at hl 4 rfl) ?_
            refine lv_imul X.1 X.2.1 dX4_passHalf_106 ?_
            refine lv_iconst (v := 1) X.1 X.2.1 dX4_passHalf_107 (by decide) ?_
            refine lv_iadd X.1 X.2.1 dX4_passHalf_108 ?_
            obtain ⟨r56, hc57, hf⟩ := bd1_e hf
            refine z_V (n := 2) (As := [.int (w52 + 1), .int (((2 : Int32) * w1) + 1)]) (rest := []) (ci := 4) (q0 := 9) X hK hN (kX4_addRow l D K aH aR h0 r0 _ (w52 + 1) (((2 : Int32) * w1) + 1) r56 hc57) (bw_V W14_21 W14_22 W14_23 W1_22 W15_0) rfl ⟨rfl, rfl⟩ (by decide +kernel) rfl ⟨Nat.le_of_ble_eq_true rfl, Nat.le_of_ble_eq_true rfl⟩ hP hD rfl rfl (zj_same hD hS hA) hS hl.1 rfl (Nat.le_of_ble_eq_true rfl) dX4_passHalf_109 ⟨Nat.zero_le _, Nat.zero_le _⟩ rfl (fun H locs hP hD hS => ?_)
            refine lv_aload_n X.1 X.2.1 dX4_passHalf_112 rfl (lv_at hl 5 rfl) ?_
            refine lv_iload X.1 X.2.1 dX4_passHalf_113 (lv_at hl 0 rfl) ?_
            obtain ⟨r58, hc59, hf⟩ := bd1_e hf
            refine z_V (n := 1) (As := [.int r53]) (rest := []) (ci := 4) (q0 := 9) X hK hN (kX4_letAbsencesIn l D K aH aR h0 r56 _ r53 r58 hc59) (bw_V W15_1 W15_2 W15_3 W1_22 W15_4) rfl ⟨rfl, rfl⟩ (by decide +kernel) rfl ⟨Nat.le_of_ble_eq_true rfl, Nat.le_of_ble_eq_true rfl⟩ hP hD rfl rfl (zj_same hD hS hA) hS hl.1 rfl (Nat.le_of_ble_eq_true rfl) dX4_passHalf_115 ⟨Nat.zero_le _, Nat.zero_le _⟩ rfl (fun H locs hP hD hS => ?_)
            refine lv_iconst (v := 1) X.1 X.2.1 dX4_passHalf_118 (by decide) ?_
            obtain ⟨rfl, rfl⟩ := z_inj2 hf
            exact z_iret X hr hlk hP hD hS dX4_passHalf_119
          · have hf := ite_t hf c55
            refine lv_iconst (v := 0) X.1 X.2.1 dX4_passHalf_97 (by decide) ?_
            obtain ⟨rfl, rfl⟩ := z_inj2 hf
            exact z_iret X hr hlk hP hD hS dX4_passHalf_98
