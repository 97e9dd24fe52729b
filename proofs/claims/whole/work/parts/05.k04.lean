abbrev rmX1_noteWeights : Room := { frames := 0, cells := 0, slots := 0, locals := 0 }
set_option maxHeartbeats 4000000 in
set_option maxRecDepth 100000 in
theorem kX1_noteWeights (l : Launch) (D : va_G) (K : Nat → ClassId) (aH : Nat → Nat) (aR : Nat → Nat) (aS : Nat → Nat) (aG : Nat → Nat) (h0 : St) (r0 : St) (v0 : St) (g0 : St) (sz : Nat) (x1 : Int32) (g_ : St) (hf : fX1_noteWeights h0 r0 v0 g0 x1 = some g_) : Met l yX1_noteWeights (bw (Cond.code yX1_noteWeights cX1_noteWeights 4 none)) rmX1_noteWeights (va_Pc [.ref (aG 0), .int x1] (zB D K sz (wbX2 K aH h0 ++ (wbX4 K (aH 0) aR r0 ++ (wbX6 K aS v0 ++ (wbX1 K (aH 0) (aR 0) (aS 0) aG g0)))))) (zQ (none) D (va_A (wbX2 K aH h0 ++ (wbX4 K (aH 0) aR r0 ++ (wbX6 K aS v0 ++ (wbX1 K (aH 0) (aR 0) (aS 0) aG g0)))) sz) (wbX2 K aH h0 ++ (wbX4 K (aH 0) aR r0 ++ (wbX6 K aS v0 ++ (wbX1 K (aH 0) (aR 0) (aS 0) aG g_))))) 0 0 (va_A (wbX2 K aH h0 ++ (wbX4 K (aH 0) aR r0 ++ (wbX6 K aS v0 ++ (wbX1 K (aH 0) (aR 0) (aS 0) aG g0)))) sz) := by
  refine z_of (cc := cX1_noteWeights) (maxL := 4) (ret := none) (own := RX1) (lv := [(0, .ref (aG 0)), (1, .int x1)]) (by decide) rfl rfl (Nat.le_of_ble_eq_true rfl) rfl ?_
  intro p e s m below meth c X hr hlk hK hN hsz hP hD hA hS hin ls hl
  generalize va_A (wbX2 K aH h0 ++ (wbX4 K (aH 0) aR r0 ++ (wbX6 K aS v0 ++ (wbX1 K (aH 0) (aR 0) (aS 0) aG g0)))) sz = A at hD hA hS hN ⊢
  have hiX1 : ∀ w ∈ u_ws RX1 TX1 4, w ∈ (bw (Cond.code yX1_noteWeights cX1_noteWeights 4 none)) := fun w h => bw_in (inlX1 w h)
  have hiX4 : ∀ w ∈ u_ws RX4 TX4 12, w ∈ (bw (Cond.code yX1_noteWeights cX1_noteWeights 4 none)) := fun w h => bw_in (inlX4 w h)
  have L15_0 : ∀ (n : Nat), ∀ (n15_0 : Int32) (n15_1 : Int32) (n15_2 : Int32) (q15_G : St), fX1_noteWeights_15 h0 r0 v0 n n15_0 n15_1 n15_2 q15_G = some g_ → ∀ (H : Heap) (locs : List Loc), va_P D vwCl (wbX2 K aH h0 ++ (wbX4 K (aH 0) aR r0 ++ (wbX6 K aS v0 ++ (wbX1 K (aH 0) (aR 0) (aS 0) aG q15_G)))) H → va_D A (wbX2 K aH h0 ++ (wbX4 K (aH 0) aR r0 ++ (wbX6 K aS v0 ++ (wbX1 K (aH 0) (aR 0) (aS 0) aG q15_G)))) → va_S A s.heap H locs → ∀ (ls : Array Slot), lv_has ls 4 [(0, .ref (aG 0)), (1, .int n15_0), (2, .int n15_1), (3, .int n15_2)] → W p l e rmX1_noteWeights s m ([.ref (aG 0), .int x1] : List Value).toArray below meth c H locs 0 0 (MQ below (zQ (none) D A (wbX2 K aH h0 ++ (wbX4 K (aH 0) aR r0 ++ (wbX6 K aS v0 ++ (wbX1 K (aH 0) (aR 0) (aS 0) aG g_))))) ([.ref (aG 0), .int x1] : List Value).toArray s 0 0 A) (F0 m 15 ls []) := by
    intro n
    induction n with
    | zero =>
      intro n15_0 n15_1 n15_2 q15_G hf
      rw [fX1_noteWeights_15] at hf
      cases hf
    | succ n ih =>
      intro n15_0 n15_1 n15_2 q15_G hf H locs hP hD hS ls hl
      rw [fX1_noteWeights_15] at hf
      refine lv_iload_n X.1 X.2.1 dX1_noteWeights_15 rfl (lv_at hl 3 rfl) ?_
      refine lv_bipush (v := 100) X.1 X.2.1 dX1_noteWeights_16 (by decide) ?_
      refine lv_icmp_ge (tgt := 78) X.1 X.2.1 dX1_noteWeights_18 (by decide) (fun c3 => ?_) (fun c3 => ?_)
      · have hf := ite_t hf c3
        obtain rfl := z_inj1 hf
        exact z_vret X hr hlk hP hD hS dX1_noteWeights_78
      · have hf := ite_f hf c3
        refine lv_iload_n X.1 X.2.1 dX1_noteWeights_21 rfl (lv_at hl 2 rfl) ?_
        refine lv_iconst (v := 1) X.1 X.2.1 dX1_noteWeights_22 (by decide) ?_
        refine lv_iadd X.1 X.2.1 dX1_noteWeights_23 ?_
        refine lv_aload_n X.1 X.2.1 dX1_noteWeights_24 rfl (lv_at hl 0 rfl) ?_
        refine z_get X hK hP hiX1 22 rfl rfl 1 (by decide) (bw_in W5_19) rfl dX1_noteWeights_25 ?_
        refine z_get X hK hP hiX4 9 rfl rfl 9 (by decide) (bw_in W35_5) rfl dX1_noteWeights_28 ?_
        refine lv_icmp_ge (tgt := 52) X.1 X.2.1 dX1_noteWeights_31 (by decide) (fun c4 => ?_) (fun c4 => ?_)
        · have hf := ite_t hf c4
          refine lv_aload_n X.1 X.2.1 dX1_noteWeights_52 rfl (lv_at hl 0 rfl) ?_
          refine z_get X hK hP hiX1 22 rfl rfl 3 (by decide) (bw_in W5_17) rfl dX1_noteWeights_53 ?_
          refine lv_iload_n X.1 X.2.1 dX1_noteWeights_56 rfl (lv_at hl 1 rfl) ?_
          refine lv_bipush (v := 100) X.1 X.2.1 dX1_noteWeights_57 (by decide) ?_
          refine lv_imul X.1 X.2.1 dX1_noteWeights_59 ?_
          refine lv_iload_n X.1 X.2.1 dX1_noteWeights_60 rfl (lv_at hl 3 rfl) ?_
          refine lv_iadd X.1 X.2.1 dX1_noteWeights_61 ?_
          refine lv_aload_n X.1 X.2.1 dX1_noteWeights_62 rfl (lv_at hl 0 rfl) ?_
          refine z_get X hK hP hiX1 22 rfl rfl 1 (by decide) (bw_in W5_19) rfl dX1_noteWeights_63 ?_
          refine z_get X hK hP hiX4 9 rfl rfl 3 (by decide) (bw_in W35_7) rfl dX1_noteWeights_66 ?_
          refine lv_iload_n X.1 X.2.1 dX1_noteWeights_69 rfl (lv_at hl 2 rfl) ?_
          obtain ⟨hi6, hf⟩ := chk_e hf
          obtain ⟨v5, ev5, hf⟩ := stp_e hf
          refine z_iald X hK hP 12 rfl hi6 ev5 dX1_noteWeights_70 ?_
          obtain ⟨hi7, hf⟩ := chk_e hf
          obtain ⟨g8, eg8, hf⟩ := stp_e hf
          refine z_iast (ws' := wbX2 K aH h0 ++ (wbX4 K (aH 0) aR r0 ++ (wbX6 K aS v0 ++ (wbX1 K (aH 0) (aR 0) (aS 0) aG g8)))) X hK hP hD hS 23 rfl hi7 dX1_noteWeights_71 (by rw [eg8]; rfl) (fun H locs hP hD hS => ?_)
          obtain ⟨w9, ew9, hf⟩ := stp_e hf
          refine lv_iinc (v := w9) (lv' := [(3, .int w9), (0, .ref (aG 0)), (1, .int n15_0), (2, .int n15_1)]) X.1 X.2.1 dX1_noteWeights_72 hl (k := 3) rfl (by rw [ew9]; rfl) (by decide) rfl (fun ls hl => ?_)
          refine lv_goto (tgt := 15) X.1 X.2.1 dX1_noteWeights_75 (by decide) ?_
          exact ih _ _ _ _ hf _ _ hP hD hS _ (lv_sub hl [1, 2, 3, 0] rfl)
        · have hf := ite_f hf c4
          refine lv_aload_n X.1 X.2.1 dX1_noteWeights_34 rfl (lv_at hl 0 rfl) ?_
          refine z_get X hK hP hiX1 22 rfl rfl 1 (by decide) (bw_in W5_19) rfl dX1_noteWeights_35 ?_
          refine z_get X hK hP hiX4 9 rfl rfl 1 (by decide) (bw_in W35_6) rfl dX1_noteWeights_38 ?_
          refine lv_iload_n X.1 X.2.1 dX1_noteWeights_41 rfl (lv_at hl 2 rfl) ?_
          refine lv_iconst (v := 1) X.1 X.2.1 dX1_noteWeights_42 (by decide) ?_
          refine lv_iadd X.1 X.2.1 dX1_noteWeights_43 ?_
          obtain ⟨hi11, hf⟩ := chk_e hf
          obtain ⟨v10, ev10, hf⟩ := stp_e hf
          refine z_iald X hK hP 10 rfl hi11 ev10 dX1_noteWeights_44 ?_
          refine lv_iload_n X.1 X.2.1 dX1_noteWeights_45 rfl (lv_at hl 3 rfl) ?_
          refine lv_icmp_gt (tgt := 52) X.1 X.2.1 dX1_noteWeights_46 (by decide) (fun c12 => ?_) (fun c12 => ?_)
          · have hf := ite_t hf c12
            refine lv_aload_n X.1 X.2.1 dX1_noteWeights_52 rfl (lv_at hl 0 rfl) ?_
            refine z_get X hK hP hiX1 22 rfl rfl 3 (by decide) (bw_in W5_17) rfl dX1_noteWeights_53 ?_
            refine lv_iload_n X.1 X.2.1 dX1_noteWeights_56 rfl (lv_at hl 1 rfl) ?_
            refine lv_bipush (v := 100) X.1 X.2.1 dX1_noteWeights_57 (by decide) ?_
            refine lv_imul X.1 X.2.1 dX1_noteWeights_59 ?_
            refine lv_iload_n X.1 X.2.1 dX1_noteWeights_60 rfl (lv_at hl 3 rfl) ?_
            refine lv_iadd X.1 X.2.1 dX1_noteWeights_61 ?_
            refine lv_aload_n X.1 X.2.1 dX1_noteWeights_62 rfl (lv_at hl 0 rfl) ?_
            refine z_get X hK hP hiX1 22 rfl rfl 1 (by decide) (bw_in W5_19) rfl dX1_noteWeights_63 ?_
            refine z_get X hK hP hiX4 9 rfl rfl 3 (by decide) (bw_in W35_7) rfl dX1_noteWeights_66 ?_
            refine lv_iload_n X.1 X.2.1 dX1_noteWeights_69 rfl (lv_at hl 2 rfl) ?_
            obtain ⟨hi14, hf⟩ := chk_e hf
            obtain ⟨v13, ev13, hf⟩ := stp_e hf
            refine z_iald X hK hP 12 rfl hi14 ev13 dX1_noteWeights_70 ?_
            obtain ⟨hi15, hf⟩ := chk_e hf
            obtain ⟨g16, eg16, hf⟩ := stp_e hf
            refine z_iast (ws' := wbX2 K aH h0 ++ (wbX4 K (aH 0) aR r0 ++ (wbX6 K aS v0 ++ (wbX1 K (aH 0) (aR 0) (aS 0) aG g16)))) X hK hP hD hS 23 rfl hi15 dX1_noteWeights_71 (by rw [eg16]; rfl) (fun H locs hP hD hS => ?_)
            obtain ⟨w17, ew17, hf⟩ := stp_e hf
            refine lv_iinc (v := w17) (lv' := [(3, .int w17), (0, .ref (aG 0)), (1, .int n15_0), (2, .int n15_1)]) X.1 X.2.1 dX1_noteWeights_72 hl (k := 3) rfl (by rw [ew17]; rfl) (by decide) rfl (fun ls hl => ?_)
            refine lv_goto (tgt := 15) X.1 X.2.1 dX1_noteWeights_75 (by decide) ?_
            exact ih _ _ _ _ hf _ _ hP hD hS _ (lv_sub hl [1, 2, 3, 0] rfl)
          · have hf := ite_f hf c12
            obtain ⟨w18, ew18, hf⟩ := stp_e hf
            refine lv_iinc (v := w18) (lv' := [(2, .int w18), (0, .ref (aG 0)), (1, .int n15_0), (3, .int n15_2)]) X.1 X.2.1 dX1_noteWeights_49 hl (k := 2) rfl (by rw [ew18]; rfl) (by decide) rfl (fun ls hl => ?_)
            refine lv_aload_n X.1 X.2.1 dX1_noteWeights_52 rfl (lv_at hl 1 rfl) ?_
            refine z_get X hK hP hiX1 22 rfl rfl 3 (by decide) (bw_in W5_17) rfl dX1_noteWeights_53 ?_
            refine lv_iload_n X.1 X.2.1 dX1_noteWeights_56 rfl (lv_at hl 2 rfl) ?_
            refine lv_bipush (v := 100) X.1 X.2.1 dX1_noteWeights_57 (by decide) ?_
            refine lv_imul X.1 X.2.1 dX1_noteWeights_59 ?_
            refine lv_iload_n X.1 X.2.1 dX1_noteWeights_60 rfl (lv_at hl 3 rfl) ?_
            refine lv_iadd X.1 X.2.1 dX1_noteWeights_61 ?_
            refine lv_aload_n X.1 X.2.1 dX1_noteWeights_62 rfl (lv_at hl 1 rfl) ?_
            refine z_get X hK hP hiX1 22 rfl rfl 1 (by decide) (bw_in W5_19) rfl dX1_noteWeights_63 ?_
            refine z_get X hK hP hiX4 9 rfl rfl 3 (by decide) (bw_in W35_7) rfl dX1_noteWeights_66 ?_
            refine lv_iload_n X.1 X.2.1 dX1_noteWeights_69 rfl (lv_at hl 0 rfl) ?_
            obtain ⟨hi20, hf⟩ := chk_e hf
            obtain ⟨v19, ev19, hf⟩ := stp_e hf
            refine z_iald X hK hP 12 rfl hi20 ev19 dX1_noteWeights_70 ?_
            obtain ⟨hi21, hf⟩ := chk_e hf
            obtain ⟨g22, eg22, hf⟩ := stp_e hf
            refine z_iast (ws' := wbX2 K aH h0 ++ (wbX4 K (aH 0) aR r0 ++ (wbX6 K aS v0 ++ (wbX1 K (aH 0) (aR 0) (aS 0) aG g22)))) X hK hP hD hS 23 rfl hi21 dX1_noteWeights_71 (by rw [eg22]; rfl) (fun H locs hP hD hS => ?_)
            obtain ⟨w23, ew23, hf⟩ := stp_e hf
            refine lv_iinc (v := w23) (lv' := [(3, .int w23), (2, .int w18), (0, .ref (aG 0)), (1, .int n15_0)]) X.1 X.2.1 dX1_noteWeights_72 hl (k := 3) rfl (by rw [ew23]; rfl) (by decide) rfl (fun ls hl => ?_)
            refine lv_goto (tgt := 15) X.1 X.2.1 dX1_noteWeights_75 (by decide) ?_
            exact ih _ _ _ _ hf _ _ hP hD hS _ (lv_sub hl [2, 3, 1, 0] rfl)
  rw [fX1_noteWeights] at hf
  refine lv_iload_n X.1 X.2.1 dX1_noteWeights_0 rfl (lv_at hl 1 rfl) ?_
  refine lv_if_lt (tgt := 10) X.1 X.2.1 dX1_noteWeights_1 (by decide) (fun c1 => ?_) (fun c1 => ?_)
  · have hf := ite_t hf c1
    obtain rfl := z_inj1 hf
    exact z_vret X hr hlk hP hD hS dX1_noteWeights_10
  · have hf := ite_f hf c1
    refine lv_iload_n X.1 X.2.1 dX1_noteWeights_4 rfl (lv_at hl 1 rfl) ?_
    refine lv_bipush (v := 8) X.1 X.2.1 dX1_noteWeights_5 (by decide) ?_
    refine lv_icmp_lt (tgt := 11) X.1 X.2.1 dX1_noteWeights_7 (by decide) (fun c2 => ?_) (fun c2 => ?_)
    · have hf := ite_t hf c2
      refine lv_iconst (v := 0) X.1 X.2.1 dX1_noteWeights_11 (by decide) ?_
      refine lv_istore_n (lv' := [(2, .int 0), (0, .ref (aG 0)), (1, .int x1)]) X.1 X.2.1 dX1_noteWeights_12 rfl hl (by decide) rfl (fun ls hl => ?_)
      refine lv_iconst (v := 0) X.1 X.2.1 dX1_noteWeights_13 (by decide) ?_
      refine lv_istore_n (lv' := [(3, .int 0), (2, .int 0), (0, .ref (aG 0)), (1, .int x1)]) X.1 X.2.1 dX1_noteWeights_14 rfl hl (by decide) rfl (fun ls hl => ?_)
      exact L15_0  _ _ _ _ _ hf _ _ hP hD hS _ (lv_sub hl [2, 3, 1, 0] rfl)
    · have hf := ite_f hf c2
      obtain rfl := z_inj1 hf
      exact z_vret X hr hlk hP hD hS dX1_noteWeights_10
abbrev rmX1_bestStep : Room := { frames := 5, cells := 0, slots := 0, locals := 119 }
set_option maxHeartbeats 4000000 in
set_option maxRecDepth 100000 in
theorem kX1_bestStep (l : Launch) (D : va_G) (K : Nat → ClassId) (aH : Nat → Nat) (aR : Nat → Nat) (aS : Nat → Nat) (aG : Nat → Nat) (h0 : St) (r0 : St) (v0 : St) (g0 : St) (sz : Nat)  (q_ : Int32) (r_ : St) (g_ : St) (hf : fX1_bestStep h0 r0 v0 g0 = some (q_, r_, g_)) : Met l yX1_bestStep (bw (Cond.code yX1_bestStep cX1_bestStep 6 (some .int))) rmX1_bestStep (va_Pc [.ref (aG 0)] (zB D K sz (wbX2 K aH h0 ++ (wbX4 K (aH 0) aR r0 ++ (wbX6 K aS v0 ++ (wbX1 K (aH 0) (aR 0) (aS 0) aG g0)))))) (zQ (some (.int q_)) D (va_A (wbX2 K aH h0 ++ (wbX4 K (aH 0) aR r0 ++ (wbX6 K aS v0 ++ (wbX1 K (aH 0) (aR 0) (aS 0) aG g0)))) sz) (wbX2 K aH h0 ++ (wbX4 K (aH 0) aR r_ ++ (wbX6 K aS v0 ++ (wbX1 K (aH 0) (aR 0) (aS 0) aG g_))))) 0 0 (va_A (wbX2 K aH h0 ++ (wbX4 K (aH 0) aR r0 ++ (wbX6 K aS v0 ++ (wbX1 K (aH 0) (aR 0) (aS 0) aG g0)))) sz) := by
  refine z_of (cc := cX1_bestStep) (maxL := 6) (ret := (some .int)) (own := RX1) (lv := [(0, .ref (aG 0))]) (by decide) rfl rfl (Nat.le_of_ble_eq_true rfl) rfl ?_
  intro p e s m below meth c X hr hlk hK hN hsz hP hD hA hS hin ls hl
  generalize va_A (wbX2 K aH h0 ++ (wbX4 K (aH 0) aR r0 ++ (wbX6 K aS v0 ++ (wbX1 K (aH 0) (aR 0) (aS 0) aG g0)))) sz = A at hD hA hS hN ⊢
  have hiX1 : ∀ w ∈ u_ws RX1 TX1 4, w ∈ (bw (Cond.code yX1_bestStep cX1_bestStep 6 (some .int))) := fun w h => bw_in (inlX1 w h)
  have hiX2 : ∀ w ∈ u_ws RX2 TX2 14, w ∈ (bw (Cond.code yX1_bestStep cX1_bestStep 6 (some .int))) := fun w h => bw_in (inlX2 w h)
  have L45_1 : ∀ (n : Nat), ∀ (n45_0 : Int32) (n45_1 : Int32) (n45_2 : Int32) (n45_3 : Int32) (q45_R : St) (q45_G : St), fX1_bestStep_45 h0 v0 n n45_0 n45_1 n45_2 n45_3 q45_R q45_G = some ((q_, r_, g_)) → ∀ (H : Heap) (locs : List Loc), va_P D vwCl (wbX2 K aH h0 ++ (wbX4 K (aH 0) aR q45_R ++ (wbX6 K aS v0 ++ (wbX1 K (aH 0) (aR 0) (aS 0) aG q45_G)))) H → va_D A (wbX2 K aH h0 ++ (wbX4 K (aH 0) aR q45_R ++ (wbX6 K aS v0 ++ (wbX1 K (aH 0) (aR 0) (aS 0) aG q45_G)))) → va_S A s.heap H locs → ∀ (ls : Array Slot), lv_has ls 6 [(0, .ref (aG 0)), (1, .int n45_0), (2, .int n45_1), (3, .int n45_2), (4, .int n45_3)] → W p l e rmX1_bestStep s m ([.ref (aG 0)] : List Value).toArray below meth c H locs 0 0 (MQ below (zQ (some (.int q_)) D A (wbX2 K aH h0 ++ (wbX4 K (aH 0) aR r_ ++ (wbX6 K aS v0 ++ (wbX1 K (aH 0) (aR 0) (aS 0) aG g_))))) ([.ref (aG 0)] : List Value).toArray s 0 0 A) (F0 m 45 ls []) := by
    intro n
    induction n with
    | zero =>
      intro n45_0 n45_1 n45_2 n45_3 q45_R q45_G hf
      rw [fX1_bestStep_45] at hf
      cases hf
    | succ n ih =>
      intro n45_0 n45_1 n45_2 n45_3 q45_R q45_G hf H locs hP hD hS ls hl
      rw [fX1_bestStep_45] at hf
      refine lv_iload X.1 X.2.1 dX1_bestStep_45 (lv_at hl 4 rfl) ?_
      refine lv_bipush (v := 100) X.1 X.2.1 dX1_bestStep_47 (by decide) ?_
      refine lv_icmp_ge (tgt := 79) X.1 X.2.1 dX1_bestStep_49 (by decide) (fun c2 => ?_) (fun c2 => ?_)
      · have hf := ite_t hf c2
        refine lv_iload_n X.1 X.2.1 dX1_bestStep_79 rfl (lv_at hl 2 rfl) ?_
        obtain ⟨rfl, rfl, rfl⟩ := z_inj3 hf
        exact z_iret X hr hlk hP hD hS dX1_bestStep_80
      · have hf := ite_f hf c2
        refine lv_aload_n X.1 X.2.1 dX1_bestStep_52 rfl (lv_at hl 0 rfl) ?_
        refine lv_iload_n X.1 X.2.1 dX1_bestStep_53 rfl (lv_at hl 1 rfl) ?_
        refine lv_iload X.1 X.2.1 dX1_bestStep_54 (lv_at hl 4 rfl) ?_
        obtain ⟨r3, hc4, hf⟩ := bd1_e hf
        refine z_V (n := 2) (As := [.int n45_0, .int n45_3]) (rest := []) (ci := 1) (q0 := 22) X hK hN (kX1_mostAlike l D K aH aR aS aG h0 q45_R v0 q45_G _ n45_0 n45_3 r3 hc4) (bw_V W35_8 W35_9 W35_10 W2_15 W35_11) rfl ⟨rfl, rfl⟩ (by decide +kernel) rfl ⟨Nat.le_of_ble_eq_true rfl, Nat.le_of_ble_eq_true rfl⟩ hP hD rfl rfl (zj_same hD hS hA) hS hl.1 rfl (Nat.le_of_ble_eq_true rfl) dX1_bestStep_56 ⟨Nat.zero_le _, Nat.zero_le _⟩ rfl (fun H locs hP hD hS => ?_)
        refine lv_istore (lv' := [(5, .int r3), (0, .ref (aG 0)), (1, .int n45_0), (2, .int n45_1), (3, .int n45_2), (4, .int n45_3)]) X.1 X.2.1 dX1_bestStep_59 hl (by decide) rfl (fun ls hl => ?_)
        refine lv_iload X.1 X.2.1 dX1_bestStep_61 (lv_at hl 0 rfl) ?_
        refine lv_iload_n X.1 X.2.1 dX1_bestStep_63 rfl (lv_at hl 4 rfl) ?_
        refine lv_icmp_ge (tgt := 73) X.1 X.2.1 dX1_bestStep_64 (by decide) (fun c5 => ?_) (fun c5 => ?_)
        · have hf := ite_t hf c5
          obtain ⟨w6, ew6, hf⟩ := stp_e hf
          refine lv_iinc (v := w6) (lv' := [(4, .int w6), (5, .int r3), (0, .ref (aG 0)), (1, .int n45_0), (2, .int n45_1), (3, .int n45_2)]) X.1 X.2.1 dX1_bestStep_73 hl (k := 5) rfl (by rw [ew6]; rfl) (by decide) rfl (fun ls hl => ?_)
          refine lv_goto (tgt := 45) X.1 X.2.1 dX1_bestStep_76 (by decide) ?_
          exact ih _ _ _ _ _ _ hf _ _ hP hD hS _ (lv_sub hl [2, 3, 4, 5, 0] rfl)
        · have hf := ite_f hf c5
          refine lv_iload X.1 X.2.1 dX1_bestStep_67 (lv_at hl 0 rfl) ?_
          refine lv_istore_n (lv' := [(3, .int r3), (5, .int r3), (0, .ref (aG 0)), (1, .int n45_0), (2, .int n45_1), (4, .int n45_3)]) X.1 X.2.1 dX1_bestStep_69 rfl hl (by decide) rfl (fun ls hl => ?_)
          refine lv_iload X.1 X.2.1 dX1_bestStep_70 (lv_at hl 5 rfl) ?_
          refine lv_istore_n (lv' := [(2, .int n45_3), (3, .int r3), (5, .int r3), (0, .ref (aG 0)), (1, .int n45_0), (4, .int n45_3)]) X.1 X.2.1 dX1_bestStep_72 rfl hl (by decide) rfl (fun ls hl => ?_)
          obtain ⟨w7, ew7, hf⟩ := stp_e hf
          refine lv_iinc (v := w7) (lv' := [(4, .int w7), (2, .int n45_3), (3, .int r3), (5, .int r3), (0, .ref (aG 0)), (1, .int n45_0)]) X.1 X.2.1 dX1_bestStep_73 hl (k := 5) rfl (by rw [ew7]; rfl) (by decide) rfl (fun ls hl => ?_)
          refine lv_goto (tgt := 45) X.1 X.2.1 dX1_bestStep_76 (by decide) ?_
          exact ih _ _ _ _ _ _ hf _ _ hP hD hS _ (lv_sub hl [4, 5, 1, 2, 0] rfl)
  have L4_0 : ∀ (n : Nat), ∀ (n4_0 : Int32) (n4_1 : Int32) (q4_R : St) (q4_G : St), fX1_bestStep_4 h0 v0 n n4_0 n4_1 q4_R q4_G = some ((q_, r_, g_)) → ∀ (H : Heap) (locs : List Loc), va_P D vwCl (wbX2 K aH h0 ++ (wbX4 K (aH 0) aR q4_R ++ (wbX6 K aS v0 ++ (wbX1 K (aH 0) (aR 0) (aS 0) aG q4_G)))) H → va_D A (wbX2 K aH h0 ++ (wbX4 K (aH 0) aR q4_R ++ (wbX6 K aS v0 ++ (wbX1 K (aH 0) (aR 0) (aS 0) aG q4_G)))) → va_S A s.heap H locs → ∀ (ls : Array Slot), lv_has ls 6 [(0, .ref (aG 0)), (1, .int n4_0), (2, .int n4_1)] → W p l e rmX1_bestStep s m ([.ref (aG 0)] : List Value).toArray below meth c H locs 0 0 (MQ below (zQ (some (.int q_)) D A (wbX2 K aH h0 ++ (wbX4 K (aH 0) aR r_ ++ (wbX6 K aS v0 ++ (wbX1 K (aH 0) (aR 0) (aS 0) aG g_))))) ([.ref (aG 0)] : List Value).toArray s 0 0 A) (F0 m 4 ls []) := by
    intro n
    induction n with
    | zero =>
      intro n4_0 n4_1 q4_R q4_G hf
      rw [fX1_bestStep_4] at hf
      cases hf
    | succ n ih =>
      intro n4_0 n4_1 q4_R q4_G hf H locs hP hD hS ls hl
      rw [fX1_bestStep_4] at hf
      refine lv_iload_n X.1 X.2.1 dX1_bestStep_4 rfl (lv_at hl 2 rfl) ?_
      refine lv_aload_n X.1 X.2.1 dX1_bestStep_5 rfl (lv_at hl 0 rfl) ?_
      refine z_get X hK hP hiX1 22 rfl rfl 0 (by decide) (bw_in W5_18) rfl dX1_bestStep_6 ?_
      refine z_get X hK hP hiX2 0 rfl rfl 3 (by decide) (bw_in W32_17) rfl dX1_bestStep_9 ?_
      refine lv_icmp_ge (tgt := 37) X.1 X.2.1 dX1_bestStep_12 (by decide) (fun c1 => ?_) (fun c1 => ?_)
      · have hf := ite_t hf c1
        refine lv_iconst (v := 0) X.1 X.2.1 dX1_bestStep_37 (by decide) ?_
        refine lv_istore_n (lv' := [(2, .int 0), (0, .ref (aG 0)), (1, .int n4_0)]) X.1 X.2.1 dX1_bestStep_38 rfl hl (by decide) rfl (fun ls hl => ?_)
        refine lv_bipush (v := 9) X.1 X.2.1 dX1_bestStep_39 (by decide) ?_
        refine lv_istore_n (lv' := [(3, .int 9), (2, .int 0), (0, .ref (aG 0)), (1, .int n4_0)]) X.1 X.2.1 dX1_bestStep_41 rfl hl (by decide) rfl (fun ls hl => ?_)
        refine lv_iconst (v := 0) X.1 X.2.1 dX1_bestStep_42 (by decide) ?_
        refine lv_istore (lv' := [(4, .int 0), (3, .int 9), (2, .int 0), (0, .ref (aG 0)), (1, .int n4_0)]) X.1 X.2.1 dX1_bestStep_43 hl (by decide) rfl (fun ls hl => ?_)
        exact L45_1  _ _ _ _ _ _ _ hf _ _ hP hD hS _ (lv_sub hl [3, 4, 2, 1, 0] rfl)
      · have hf := ite_f hf c1
        refine lv_aload_n X.1 X.2.1 dX1_bestStep_15 rfl (lv_at hl 0 rfl) ?_
        refine lv_iload_n X.1 X.2.1 dX1_bestStep_16 rfl (lv_at hl 2 rfl) ?_
        obtain ⟨r8, r9, hc10, hf⟩ := bd2_e hf
        refine z_V (n := 1) (As := [.int n4_1]) (rest := []) (ci := 1) (q0 := 22) X hK hN (kX1_fitsWithout l D K aH aR aS aG h0 q4_R v0 q4_G _ n4_1 r8 r9 hc10) (bw_V W32_18 W32_19 W32_20 W2_15 W32_21) rfl ⟨rfl, rfl⟩ (by decide +kernel) rfl ⟨Nat.le_of_ble_eq_true rfl, Nat.le_of_ble_eq_true rfl⟩ hP hD rfl rfl (zj_same hD hS hA) hS hl.1 rfl (Nat.le_of_ble_eq_true rfl) dX1_bestStep_17 ⟨Nat.zero_le _, Nat.zero_le _⟩ rfl (fun H locs hP hD hS => ?_)
        refine lv_if_eq (tgt := 31) X.1 X.2.1 dX1_bestStep_20 (by decide) (fun c11 => ?_) (fun c11 => ?_)
        · have hf := ite_t hf c11
          obtain ⟨w12, ew12, hf⟩ := stp_e hf
          refine lv_iinc (v := w12) (lv' := [(2, .int w12), (0, .ref (aG 0)), (1, .int n4_0)]) X.1 X.2.1 dX1_bestStep_31 hl (k := 2) rfl (by rw [ew12]; rfl) (by decide) rfl (fun ls hl => ?_)
          refine lv_goto (tgt := 4) X.1 X.2.1 dX1_bestStep_34 (by decide) ?_
          exact ih _ _ _ _ hf _ _ hP hD hS _ (lv_sub hl [1, 2, 0] rfl)
        · have hf := ite_f hf c11
          refine lv_aload_n X.1 X.2.1 dX1_bestStep_23 rfl (lv_at hl 0 rfl) ?_
          refine lv_iload_n X.1 X.2.1 dX1_bestStep_24 rfl (lv_at hl 1 rfl) ?_
          obtain ⟨g13, hc14, hf⟩ := bd1_e hf
          refine z_V (n := 1) (As := [.int n4_0]) (rest := []) (ci := 1) (q0 := 22) X hK hN (kX1_noteWeights l D K aH aR aS aG h0 r9 v0 q4_G _ n4_0 g13 hc14) (bw_V W35_1 W35_2 W35_3 W2_15 W35_4) rfl ⟨rfl, rfl⟩ (by decide +kernel) rfl ⟨Nat.le_of_ble_eq_true rfl, Nat.le_of_ble_eq_true rfl⟩ hP hD rfl rfl (zj_same hD hS hA) hS hl.1 rfl (Nat.le_of_ble_eq_true rfl) dX1_bestStep_25 ⟨Nat.zero_le _, Nat.zero_le _⟩ rfl (fun H locs hP hD hS => ?_)
          obtain ⟨w15, ew15, hf⟩ := stp_e hf
          refine lv_iinc (v := w15) (lv' := [(1, .int w15), (0, .ref (aG 0)), (2, .int n4_1)]) X.1 X.2.1 dX1_bestStep_28 hl (k := 1) rfl (by rw [ew15]; rfl) (by decide) rfl (fun ls hl => ?_)
          obtain ⟨w16, ew16, hf⟩ := stp_e hf
          refine lv_iinc (v := w16) (lv' := [(2, .int w16), (1, .int w15), (0, .ref (aG 0))]) X.1 X.2.1 dX1_bestStep_31 hl (k := 2) rfl (by rw [ew16]; rfl) (by decide) rfl (fun ls hl => ?_)
          refine lv_goto (tgt := 4) X.1 X.2.1 dX1_bestStep_34 (by decide) ?_
          exact ih _ _ _ _ hf _ _ hP hD hS _ (lv_sub hl [2, 1, 0] rfl)
  rw [fX1_bestStep] at hf
  refine lv_iconst (v := 0) X.1 X.2.1 dX1_bestStep_0 (by decide) ?_
  refine lv_istore_n (lv' := [(1, .int 0), (0, .ref (aG 0))]) X.1 X.2.1 dX1_bestStep_1 rfl hl (by decide) rfl (fun ls hl => ?_)
  refine lv_iconst (v := 0) X.1 X.2.1 dX1_bestStep_2 (by decide) ?_
  refine lv_istore_n (lv' := [(2, .int 0), (1, .int 0), (0, .ref (aG 0))]) X.1 X.2.1 dX1_bestStep_3 rfl hl (by decide) rfl (fun ls hl => ?_)
  exact L4_0  _ _ _ _ _ hf _ _ hP hD hS _ (lv_sub hl [2, 1, 0] rfl)
abbrev rmX1_neverLeft : Room := { frames := 5, cells := 0, slots := 0, locals := 119 }
set_option maxHeartbeats 4000000 in
set_option maxRecDepth 100000 in
theorem kX1_neverLeft (l : Launch) (D : va_G) (K : Nat → ClassId) (aH : Nat → Nat) (aR : Nat → Nat) (aS : Nat → Nat) (aG : Nat → Nat) (h0 : St) (r0 : St) (v0 : St) (g0 : St) (sz : Nat)  (q_ : Int32) (r_ : St) (hf : fX1_neverLeft h0 r0 v0 g0 = some (q_, r_)) : Met l yX1_neverLeft (bw (Cond.code yX1_neverLeft cX1_neverLeft 3 (some .int))) rmX1_neverLeft (va_Pc [.ref (aG 0)] (zB D K sz (wbX2 K aH h0 ++ (wbX4 K (aH 0) aR r0 ++ (wbX6 K aS v0 ++ (wbX1 K (aH 0) (aR 0) (aS 0) aG g0)))))) (zQ (some (.int q_)) D (va_A (wbX2 K aH h0 ++ (wbX4 K (aH 0) aR r0 ++ (wbX6 K aS v0 ++ (wbX1 K (aH 0) (aR 0) (aS 0) aG g0)))) sz) (wbX2 K aH h0 ++ (wbX4 K (aH 0) aR r_ ++ (wbX6 K aS v0 ++ (wbX1 K (aH 0) (aR 0) (aS 0) aG g0))))) 0 0 (va_A (wbX2 K aH h0 ++ (wbX4 K (aH 0) aR r0 ++ (wbX6 K aS v0 ++ (wbX1 K (aH 0) (aR 0) (aS 0) aG g0)))) sz) := by
  refine z_of (cc := cX1_neverLeft) (maxL := 3) (ret := (some .int)) (own := RX1) (lv := [(0, .ref (aG 0))]) (by decide) rfl rfl (Nat.le_of_ble_eq_true rfl) rfl ?_
  intro p e s m below meth c X hr hlk hK hN hsz hP hD hA hS hin ls hl
  generalize va_A (wbX2 K aH h0 ++ (wbX4 K (aH 0) aR r0 ++ (wbX6 K aS v0 ++ (wbX1 K (aH 0) (aR 0) (aS 0) aG g0)))) sz = A at hD hA hS hN ⊢
  have hiX1 : ∀ w ∈ u_ws RX1 TX1 4, w ∈ (bw (Cond.code yX1_neverLeft cX1_neverLeft 3 (some .int))) := fun w h => bw_in (inlX1 w h)
  have hiX2 : ∀ w ∈ u_ws RX2 TX2 14, w ∈ (bw (Cond.code yX1_neverLeft cX1_neverLeft 3 (some .int))) := fun w h => bw_in (inlX2 w h)
  have L4_0 : ∀ (n : Nat), ∀ (n4_0 : Int32) (n4_1 : Int32) (q4_R : St), fX1_neverLeft_4 h0 v0 g0 n n4_0 n4_1 q4_R = some ((q_, r_)) → ∀ (H : Heap) (locs : List Loc), va_P D vwCl (wbX2 K aH h0 ++ (wbX4 K (aH 0) aR q4_R ++ (wbX6 K aS v0 ++ (wbX1 K (aH 0) (aR 0) (aS 0) aG g0)))) H → va_D A (wbX2 K aH h0 ++ (wbX4 K (aH 0) aR q4_R ++ (wbX6 K aS v0 ++ (wbX1 K (aH 0) (aR 0) (aS 0) aG g0)))) → va_S A s.heap H locs → ∀ (ls : Array Slot), lv_has ls 3 [(0, .ref (aG 0)), (1, .int n4_0), (2, .int n4_1)] → W p l e rmX1_neverLeft s m ([.ref (aG 0)] : List Value).toArray below meth c H locs 0 0 (MQ below (zQ (some (.int q_)) D A (wbX2 K aH h0 ++ (wbX4 K (aH 0) aR r_ ++ (wbX6 K aS v0 ++ (wbX1 K (aH 0) (aR 0) (aS 0) aG g0))))) ([.ref (aG 0)] : List Value).toArray s 0 0 A) (F0 m 4 ls []) := by
    intro n
    induction n with
    | zero =>
      intro n4_0 n4_1 q4_R hf
      rw [fX1_neverLeft_4] at hf
      cases hf
    | succ n ih =>
      intro n4_0 n4_1 q4_R hf H locs hP hD hS ls hl
      rw [fX1_neverLeft_4] at hf
      refine lv_iload_n X.1 X.2.1 dX1_neverLeft_4 rfl (lv_at hl 2 rfl) ?_
      refine lv_aload_n X.1 X.2.1 dX1_neverLeft_5 rfl (lv_at hl 0 rfl) ?_
      refine z_get X hK hP hiX1 22 rfl rfl 0 (by decide) (bw_in W5_18) rfl dX1_neverLeft_6 ?_
      refine z_get X hK hP hiX2 0 rfl rfl 3 (by decide) (bw_in W32_17) rfl dX1_neverLeft_9 ?_
      refine lv_icmp_ge (tgt := 35) X.1 X.2.1 dX1_neverLeft_12 (by decide) (fun c1 => ?_) (fun c1 => ?_)
      · have hf := ite_t hf c1
        refine lv_iload_n X.1 X.2.1 dX1_neverLeft_35 rfl (lv_at hl 1 rfl) ?_
        obtain ⟨rfl, rfl⟩ := z_inj2 hf
        exact z_iret X hr hlk hP hD hS dX1_neverLeft_36
      · have hf := ite_f hf c1
        refine lv_aload_n X.1 X.2.1 dX1_neverLeft_15 rfl (lv_at hl 0 rfl) ?_
        refine lv_iload_n X.1 X.2.1 dX1_neverLeft_16 rfl (lv_at hl 2 rfl) ?_
        obtain ⟨r2, r3, hc4, hf⟩ := bd2_e hf
        refine z_V (n := 1) (As := [.int n4_1]) (rest := []) (ci := 1) (q0 := 22) X hK hN (kX1_fitsWithout l D K aH aR aS aG h0 q4_R v0 g0 _ n4_1 r2 r3 hc4) (bw_V W32_18 W32_19 W32_20 W2_15 W32_21) rfl ⟨rfl, rfl⟩ (by decide +kernel) rfl ⟨Nat.le_of_ble_eq_true rfl, Nat.le_of_ble_eq_true rfl⟩ hP hD rfl rfl (zj_same hD hS hA) hS hl.1 rfl (Nat.le_of_ble_eq_true rfl) dX1_neverLeft_17 ⟨Nat.zero_le _, Nat.zero_le _⟩ rfl (fun H locs hP hD hS => ?_)
        refine lv_if_eq (tgt := 29) X.1 X.2.1 dX1_neverLeft_20 (by decide) (fun c5 => ?_) (fun c5 => ?_)
        · have hf := ite_t hf c5
          obtain ⟨w6, ew6, hf⟩ := stp_e hf
          refine lv_iinc (v := w6) (lv' := [(2, .int w6), (0, .ref (aG 0)), (1, .int n4_0)]) X.1 X.2.1 dX1_neverLeft_29 hl (k := 2) rfl (by rw [ew6]; rfl) (by decide) rfl (fun ls hl => ?_)
          refine lv_goto (tgt := 4) X.1 X.2.1 dX1_neverLeft_32 (by decide) ?_
          exact ih _ _ _ hf _ _ hP hD hS _ (lv_sub hl [1, 2, 0] rfl)
        · have hf := ite_f hf c5
          refine lv_iload_n X.1 X.2.1 dX1_neverLeft_23 rfl (lv_at hl 1 rfl) ?_
          refine lv_iconst (v := 1) X.1 X.2.1 dX1_neverLeft_24 (by decide) ?_
          refine lv_iload_n X.1 X.2.1 dX1_neverLeft_25 rfl (lv_at hl 2 rfl) ?_
          refine lv_ishl X.1 X.2.1 dX1_neverLeft_26 ?_
          refine lv_ior X.1 X.2.1 dX1_neverLeft_27 ?_
          obtain ⟨w7, ew7, hf⟩ := stp_e hf
          refine z_top ew7 ?_
          refine lv_istore_n (lv' := [(1, .int w7), (0, .ref (aG 0)), (2, .int n4_1)]) X.1 X.2.1 dX1_neverLeft_28 rfl hl (by decide) rfl (fun ls hl => ?_)
          obtain ⟨w8, ew8, hf⟩ := stp_e hf
          refine lv_iinc (v := w8) (lv' := [(2, .int w8), (1, .int w7), (0, .ref (aG 0))]) X.1 X.2.1 dX1_neverLeft_29 hl (k := 2) rfl (by rw [ew8]; rfl) (by decide) rfl (fun ls hl => ?_)
          refine lv_goto (tgt := 4) X.1 X.2.1 dX1_neverLeft_32 (by decide) ?_
          exact ih _ _ _ hf _ _ hP hD hS _ (lv_sub hl [2, 1, 0] rfl)
  rw [fX1_neverLeft] at hf
  refine lv_iconst (v := 0) X.1 X.2.1 dX1_neverLeft_0 (by decide) ?_
  refine lv_istore_n (lv' := [(1, .int 0), (0, .ref (aG 0))]) X.1 X.2.1 dX1_neverLeft_1 rfl hl (by decide) rfl (fun ls hl => ?_)
  refine lv_iconst (v := 0) X.1 X.2.1 dX1_neverLeft_2 (by decide) ?_
  refine lv_istore_n (lv' := [(2, .int 0), (1, .int 0), (0, .ref (aG 0))]) X.1 X.2.1 dX1_neverLeft_3 rfl hl (by decide) rfl (fun ls hl => ?_)
  exact L4_0  _ _ _ _ hf _ _ hP hD hS _ (lv_sub hl [2, 1, 0] rfl)
abbrev rmX1_whoElse : Room := { frames := 4, cells := 0, slots := 0, locals := 98 }
set_option maxHeartbeats 4000000 in
set_option maxRecDepth 100000 in
theorem kX1_whoElse (l : Launch) (D : va_G) (K : Nat → ClassId) (aH : Nat → Nat) (aR : Nat → Nat) (aS : Nat → Nat) (aG : Nat → Nat) (h0 : St) (r0 : St) (v0 : St) (g0 : St) (sz : Nat) (x1 : Int32) (q_ : Int32) (r_ : St) (hf : fX1_whoElse h0 r0 v0 g0 x1 = some (q_, r_)) : Met l yX1_whoElse (bw (Cond.code yX1_whoElse cX1_whoElse 4 (some .int))) rmX1_whoElse (va_Pc [.ref (aG 0), .int x1] (zB D K sz (wbX2 K aH h0 ++ (wbX4 K (aH 0) aR r0 ++ (wbX6 K aS v0 ++ (wbX1 K (aH 0) (aR 0) (aS 0) aG g0)))))) (zQ (some (.int q_)) D (va_A (wbX2 K aH h0 ++ (wbX4 K (aH 0) aR r0 ++ (wbX6 K aS v0 ++ (wbX1 K (aH 0) (aR 0) (aS 0) aG g0)))) sz) (wbX2 K aH h0 ++ (wbX4 K (aH 0) aR r_ ++ (wbX6 K aS v0 ++ (wbX1 K (aH 0) (aR 0) (aS 0) aG g0))))) 0 0 (va_A (wbX2 K aH h0 ++ (wbX4 K (aH 0) aR r0 ++ (wbX6 K aS v0 ++ (wbX1 K (aH 0) (aR 0) (aS 0) aG g0)))) sz) := by
  refine z_of (cc := cX1_whoElse) (maxL := 4) (ret := (some .int)) (own := RX1) (lv := [(0, .ref (aG 0)), (1, .int x1)]) (by decide) rfl rfl (Nat.le_of_ble_eq_true rfl) rfl ?_
  intro p e s m below meth c X hr hlk hK hN hsz hP hD hA hS hin ls hl
  generalize va_A (wbX2 K aH h0 ++ (wbX4 K (aH 0) aR r0 ++ (wbX6 K aS v0 ++ (wbX1 K (aH 0) (aR 0) (aS 0) aG g0)))) sz = A at hD hA hS hN ⊢
  have hiX1 : ∀ w ∈ u_ws RX1 TX1 4, w ∈ (bw (Cond.code yX1_whoElse cX1_whoElse 4 (some .int))) := fun w h => bw_in (inlX1 w h)
  have hiX2 : ∀ w ∈ u_ws RX2 TX2 14, w ∈ (bw (Cond.code yX1_whoElse cX1_whoElse 4 (some .int))) := fun w h => bw_in (inlX2 w h)
  have L4_0 : ∀ (n : Nat), ∀ (n4_0 : Int32) (n4_1 : Int32) (n4_2 : Int32) (q4_R : St), fX1_whoElse_4 h0 v0 g0 n n4_0 n4_1 n4_2 q4_R = some ((q_, r_)) → ∀ (H : Heap) (locs : List Loc), va_P D vwCl (wbX2 K aH h0 ++ (wbX4 K (aH 0) aR q4_R ++ (wbX6 K aS v0 ++ (wbX1 K (aH 0) (aR 0) (aS 0) aG g0)))) H → va_D A (wbX2 K aH h0 ++ (wbX4 K (aH 0) aR q4_R ++ (wbX6 K aS v0 ++ (wbX1 K (aH 0) (aR 0) (aS 0) aG g0)))) → va_S A s.heap H locs → ∀ (ls : Array Slot), lv_has ls 4 [(0, .ref (aG 0)), (1, .int n4_0), (2, .int n4_1), (3, .int n4_2)] → W p l e rmX1_whoElse s m ([.ref (aG 0), .int x1] : List Value).toArray below meth c H locs 0 0 (MQ below (zQ (some (.int q_)) D A (wbX2 K aH h0 ++ (wbX4 K (aH 0) aR r_ ++ (wbX6 K aS v0 ++ (wbX1 K (aH 0) (aR 0) (aS 0) aG g0))))) ([.ref (aG 0), .int x1] : List Value).toArray s 0 0 A) (F0 m 4 ls []) := by
    intro n
    induction n with
    | zero =>
      intro n4_0 n4_1 n4_2 q4_R hf
      rw [fX1_whoElse_4] at hf
      cases hf
    | succ n ih =>
      intro n4_0 n4_1 n4_2 q4_R hf H locs hP hD hS ls hl
      rw [fX1_whoElse_4] at hf
      refine lv_iload_n X.1 X.2.1 dX1_whoElse_4 rfl (lv_at hl 3 rfl) ?_
      refine lv_aload_n X.1 X.2.1 dX1_whoElse_5 rfl (lv_at hl 0 rfl) ?_
      refine z_get X hK hP hiX1 22 rfl rfl 0 (by decide) (bw_in W5_18) rfl dX1_whoElse_6 ?_
      refine z_get X hK hP hiX2 0 rfl rfl 2 (by decide) (bw_in W34_7) rfl dX1_whoElse_9 ?_
      refine lv_icmp_ge (tgt := 73) X.1 X.2.1 dX1_whoElse_12 (by decide) (fun c1 => ?_) (fun c1 => ?_)
      · have hf := ite_t hf c1
        refine lv_iload_n X.1 X.2.1 dX1_whoElse_73 rfl (lv_at hl 2 rfl) ?_
        obtain ⟨rfl, rfl⟩ := z_inj2 hf
        exact z_iret X hr hlk hP hD hS dX1_whoElse_74
      · have hf := ite_f hf c1
        refine lv_aload_n X.1 X.2.1 dX1_whoElse_15 rfl (lv_at hl 0 rfl) ?_
        refine z_get X hK hP hiX1 22 rfl rfl 1 (by decide) (bw_in W5_19) rfl dX1_whoElse_16 ?_
        refine lv_aload_n X.1 X.2.1 dX1_whoElse_19 rfl (lv_at hl 0 rfl) ?_
        refine z_get X hK hP hiX1 22 rfl rfl 0 (by decide) (bw_in W5_18) rfl dX1_whoElse_20 ?_
        obtain ⟨r2, hc3, hf⟩ := bd1_e hf
        refine z_V (n := 0) (As := []) (rest := [.ref (aR 0)]) (ci := 2) (q0 := 0) X hK hN (kX2_allLeavers l D K aH h0 _ r2 hc3) (bw_V W32_22 W13_4 W13_5 W1_18 W13_6) rfl ⟨rfl, rfl⟩ (by decide +kernel) rfl ⟨Nat.le_of_ble_eq_true rfl, Nat.le_of_ble_eq_true rfl⟩ (hP.sub [0, 1, 2, 3, 4, 5, 6, 7, 8] rfl) (hD.sub [0, 1, 2, 3, 4, 5, 6, 7, 8] (by decide) rfl) rfl rfl (zj_sub (ws' := wbX2 K aH h0 ++ (wbX4 K (aH 0) aR q4_R ++ (wbX6 K aS v0 ++ (wbX1 K (aH 0) (aR 0) (aS 0) aG g0)))) hP hD hS hA [0, 1, 2, 3, 4, 5, 6, 7, 8] [9, 10, 11, 12, 13, 14, 15, 16, 17, 18, 19, 20, 21, 22, 23] [15, 16, 17, 18, 19, 20, 21, 22, 23, 0, 1, 2, 3, 4, 5, 6, 7, 8, 9, 10, 11, 12, 13, 14] rfl rfl (by decide) (by decide) (by decide) rfl) hS hl.1 rfl (Nat.le_of_ble_eq_true rfl) dX1_whoElse_23 ⟨Nat.zero_le _, Nat.zero_le _⟩ rfl (fun H locs hP hD hS => ?_)
        obtain ⟨r4, hc5, hf⟩ := bd1_e hf
        refine z_V (n := 1) (As := [.int r2]) (rest := []) (ci := 4) (q0 := 9) X hK hN (kX4_begin l D K aH aR h0 q4_R _ r2 r4 hc5) (bw_V W32_23 W13_8 W13_9 W1_22 W13_10) rfl ⟨rfl, rfl⟩ (by decide +kernel) rfl ⟨Nat.le_of_ble_eq_true rfl, Nat.le_of_ble_eq_true rfl⟩ (hP.sub [0, 1, 2, 3, 4, 5, 6, 7, 8, 9, 10, 11, 12, 13, 14, 15, 16, 17, 18] rfl) (hD.sub [0, 1, 2, 3, 4, 5, 6, 7, 8, 9, 10, 11, 12, 13, 14, 15, 16, 17, 18] (by decide) rfl) rfl rfl (zj_sub (ws' := wbX2 K aH h0 ++ (wbX4 K (aH 0) aR r4 ++ (wbX6 K aS v0 ++ (wbX1 K (aH 0) (aR 0) (aS 0) aG g0)))) hP hD hS hA [0, 1, 2, 3, 4, 5, 6, 7, 8, 9, 10, 11, 12, 13, 14, 15, 16, 17, 18] [19, 20, 21, 22, 23] [5, 6, 7, 8, 9, 10, 11, 12, 13, 14, 15, 16, 17, 18, 19, 20, 21, 22, 23, 0, 1, 2, 3, 4] rfl rfl (by decide) (by decide) (by decide) rfl) hS hl.1 rfl (Nat.le_of_ble_eq_true rfl) dX1_whoElse_26 ⟨Nat.zero_le _, Nat.zero_le _⟩ rfl (fun H locs hP hD hS => ?_)
        refine lv_aload_n X.1 X.2.1 dX1_whoElse_29 rfl (lv_at hl 0 rfl) ?_
        refine z_get X hK hP hiX1 22 rfl rfl 1 (by decide) (bw_in W5_19) rfl dX1_whoElse_30 ?_
        refine lv_iload_n X.1 X.2.1 dX1_whoElse_33 rfl (lv_at hl 1 rfl) ?_
        refine lv_iload_n X.1 X.2.1 dX1_whoElse_34 rfl (lv_at hl 3 rfl) ?_
        obtain ⟨r6, hc7, hf⟩ := bd1_e hf
        refine z_V (n := 2) (As := [.int n4_0, .int n4_2]) (rest := []) (ci := 4) (q0 := 9) X hK hN (kX4_leavesAs l D K aH aR h0 r4 _ n4_0 n4_2 r6 hc7) (bw_V W34_8 W13_17 W13_18 W1_22 W13_19) rfl ⟨rfl, rfl⟩ (by decide +kernel) rfl ⟨Nat.le_of_ble_eq_true rfl, Nat.le_of_ble_eq_true rfl⟩ (hP.sub [0, 1, 2, 3, 4, 5, 6, 7, 8, 9, 10, 11, 12, 13, 14, 15, 16, 17, 18] rfl) (hD.sub [0, 1, 2, 3, 4, 5, 6, 7, 8, 9, 10, 11, 12, 13, 14, 15, 16, 17, 18] (by decide) rfl) rfl rfl (zj_sub (ws' := wbX2 K aH h0 ++ (wbX4 K (aH 0) aR r6 ++ (wbX6 K aS v0 ++ (wbX1 K (aH 0) (aR 0) (aS 0) aG g0)))) hP hD hS hA [0, 1, 2, 3, 4, 5, 6, 7, 8, 9, 10, 11, 12, 13, 14, 15, 16, 17, 18] [19, 20, 21, 22, 23] [5, 6, 7, 8, 9, 10, 11, 12, 13, 14, 15, 16, 17, 18, 19, 20, 21, 22, 23, 0, 1, 2, 3, 4] rfl rfl (by decide) (by decide) (by decide) rfl) hS hl.1 rfl (Nat.le_of_ble_eq_true rfl) dX1_whoElse_35 ⟨Nat.zero_le _, Nat.zero_le _⟩ rfl (fun H locs hP hD hS => ?_)
        refine lv_aload_n X.1 X.2.1 dX1_whoElse_38 rfl (lv_at hl 0 rfl) ?_
        refine z_get X hK hP hiX1 22 rfl rfl 1 (by decide) (bw_in W5_19) rfl dX1_whoElse_39 ?_
        refine lv_iconst (v := -1) X.1 X.2.1 dX1_whoElse_42 (by decide) ?_
        refine lv_iconst (v := -1) X.1 X.2.1 dX1_whoElse_43 (by decide) ?_
        obtain ⟨r8, hc9, hf⟩ := bd1_e hf
        refine z_V (n := 2) (As := [.int ((-1)), .int ((-1))]) (rest := []) (ci := 4) (q0 := 9) X hK hN (kX4_goToStops l D K aH aR h0 r6 _ ((-1)) ((-1)) r8 hc9) (bw_V W33_0 W13_23 W14_0 W1_22 W14_1) rfl ⟨rfl, rfl⟩ (by decide +kernel) rfl ⟨Nat.le_of_ble_eq_true rfl, Nat.le_of_ble_eq_true rfl⟩ (hP.sub [0, 1, 2, 3, 4, 5, 6, 7, 8, 9, 10, 11, 12, 13, 14, 15, 16, 17, 18] rfl) (hD.sub [0, 1, 2, 3, 4, 5, 6, 7, 8, 9, 10, 11, 12, 13, 14, 15, 16, 17, 18] (by decide) rfl) rfl rfl (zj_sub (ws' := wbX2 K aH h0 ++ (wbX4 K (aH 0) aR r8 ++ (wbX6 K aS v0 ++ (wbX1 K (aH 0) (aR 0) (aS 0) aG g0)))) hP hD hS hA [0, 1, 2, 3, 4, 5, 6, 7, 8, 9, 10, 11, 12, 13, 14, 15, 16, 17, 18] [19, 20, 21, 22, 23] [5, 6, 7, 8, 9, 10, 11, 12, 13, 14, 15, 16, 17, 18, 19, 20, 21, 22, 23, 0, 1, 2, 3, 4] rfl rfl (by decide) (by decide) (by decide) rfl) hS hl.1 rfl (Nat.le_of_ble_eq_true rfl) dX1_whoElse_44 ⟨Nat.zero_le _, Nat.zero_le _⟩ rfl (fun H locs hP hD hS => ?_)
        refine lv_aload_n X.1 X.2.1 dX1_whoElse_47 rfl (lv_at hl 0 rfl) ?_
        refine z_get X hK hP hiX1 22 rfl rfl 2 (by decide) (bw_in W5_20) rfl dX1_whoElse_48 ?_
        refine lv_aload_n X.1 X.2.1 dX1_whoElse_51 rfl (lv_at hl 0 rfl) ?_
        refine z_get X hK hP hiX1 22 rfl rfl 1 (by decide) (bw_in W5_19) rfl dX1_whoElse_52 ?_
        obtain ⟨r10, hc11, hf⟩ := bd1_e hf
        refine z_V (n := 1) (As := [.ref (aR 0)]) (rest := []) (ci := 6) (q0 := 0) X hK hN (kX6_comeOut l D K aS aH aR v0 h0 r8 _ r10 hc11) (bw_V W33_1 W33_2 W33_3 W2_11 W33_4) rfl ⟨rfl, rfl⟩ (by decide +kernel) rfl ⟨Nat.le_of_ble_eq_true rfl, Nat.le_of_ble_eq_true rfl⟩ (hP.sub [19, 20, 21, 0, 1, 2, 3, 4, 5, 6, 7, 8, 9, 10, 11, 12, 13, 14, 15, 16, 17, 18] rfl) (hD.sub [19, 20, 21, 0, 1, 2, 3, 4, 5, 6, 7, 8, 9, 10, 11, 12, 13, 14, 15, 16, 17, 18] (by decide) rfl) rfl rfl (zj_sub (ws' := wbX2 K aH h0 ++ (wbX4 K (aH 0) aR r8 ++ (wbX6 K aS v0 ++ (wbX1 K (aH 0) (aR 0) (aS 0) aG g0)))) hP hD hS hA [19, 20, 21, 0, 1, 2, 3, 4, 5, 6, 7, 8, 9, 10, 11, 12, 13, 14, 15, 16, 17, 18] [22, 23] [5, 6, 7, 8, 9, 10, 11, 12, 13, 14, 15, 16, 17, 18, 19, 20, 21, 22, 23, 2, 3, 4, 0, 1] rfl rfl (by decide) (by decide) (by decide) rfl) hS hl.1 rfl (Nat.le_of_ble_eq_true rfl) dX1_whoElse_55 ⟨Nat.zero_le _, Nat.zero_le _⟩ rfl (fun H locs hP hD hS => ?_)
        refine lv_if_eq (tgt := 67) X.1 X.2.1 dX1_whoElse_58 (by decide) (fun c12 => ?_) (fun c12 => ?_)
        · have hf := ite_t hf c12
          obtain ⟨w13, ew13, hf⟩ := stp_e hf
          refine lv_iinc (v := w13) (lv' := [(3, .int w13), (0, .ref (aG 0)), (1, .int n4_0), (2, .int n4_1)]) X.1 X.2.1 dX1_whoElse_67 hl (k := 3) rfl (by rw [ew13]; rfl) (by decide) rfl (fun ls hl => ?_)
          refine lv_goto (tgt := 4) X.1 X.2.1 dX1_whoElse_70 (by decide) ?_
          exact ih _ _ _ _ hf _ _ hP hD hS _ (lv_sub hl [1, 2, 3, 0] rfl)
        · have hf := ite_f hf c12
          refine lv_iload_n X.1 X.2.1 dX1_whoElse_61 rfl (lv_at hl 2 rfl) ?_
          refine lv_iconst (v := 1) X.1 X.2.1 dX1_whoElse_62 (by decide) ?_
          refine lv_iload_n X.1 X.2.1 dX1_whoElse_63 rfl (lv_at hl 3 rfl) ?_
          refine lv_ishl X.1 X.2.1 dX1_whoElse_64 ?_
          refine lv_ior X.1 X.2.1 dX1_whoElse_65 ?_
          obtain ⟨w14, ew14, hf⟩ := stp_e hf
          refine z_top ew14 ?_
          refine lv_istore_n (lv' := [(2, .int w14), (0, .ref (aG 0)), (1, .int n4_0), (3, .int n4_2)]) X.1 X.2.1 dX1_whoElse_66 rfl hl (by decide) rfl (fun ls hl => ?_)
          obtain ⟨w15, ew15, hf⟩ := stp_e hf
          refine lv_iinc (v := w15) (lv' := [(3, .int w15), (2, .int w14), (0, .ref (aG 0)), (1, .int n4_0)]) X.1 X.2.1 dX1_whoElse_67 hl (k := 3) rfl (by rw [ew15]; rfl) (by decide) rfl (fun ls hl => ?_)
          refine lv_goto (tgt := 4) X.1 X.2.1 dX1_whoElse_70 (by decide) ?_
          exact ih _ _ _ _ hf _ _ hP hD hS _ (lv_sub hl [2, 3, 1, 0] rfl)
  rw [fX1_whoElse] at hf
  refine lv_iconst (v := 0) X.1 X.2.1 dX1_whoElse_0 (by decide) ?_
  refine lv_istore_n (lv' := [(2, .int 0), (0, .ref (aG 0)), (1, .int x1)]) X.1 X.2.1 dX1_whoElse_1 rfl hl (by decide) rfl (fun ls hl => ?_)
  refine lv_iconst (v := 0) X.1 X.2.1 dX1_whoElse_2 (by decide) ?_
  refine lv_istore_n (lv' := [(3, .int 0), (2, .int 0), (0, .ref (aG 0)), (1, .int x1)]) X.1 X.2.1 dX1_whoElse_3 rfl hl (by decide) rfl (fun ls hl => ?_)
  exact L4_0  _ _ _ _ _ hf _ _ hP hD hS _ (lv_sub hl [2, 3, 1, 0] rfl)
abbrev rmX9_in : Room := { frames := 0, cells := 0, slots := 0, locals := 0 }
set_option maxHeartbeats 4000000 in
set_option maxRecDepth 100000 in
theorem kX9_in (l : Launch) (D : va_G) (K : Nat → ClassId)   (sz : Nat) (x1 : Int32) (x2 : Int32) (x3 : Int32) (q_ : Int32) (hf : fX9_in x1 x2 x3 = some q_) : Met l yX9_in (bw (Cond.code yX9_in cX9_in 3 (some .boolean))) rmX9_in (va_Pc [.int x1, .int x2, .int x3] (zB D K sz (([] : va_W)))) (zQ (some (.int q_)) D (va_A (([] : va_W)) sz) (([] : va_W))) 0 0 (va_A (([] : va_W)) sz) := by
  refine z_of (cc := cX9_in) (maxL := 3) (ret := (some .boolean)) (own := RX9) (lv := [(0, .int x1), (1, .int x2), (2, .int x3)]) (by decide) rfl rfl (Nat.le_of_ble_eq_true rfl) rfl ?_
  intro p e s m below meth c X hr hlk hK hN hsz hP hD hA hS hin ls hl
  generalize va_A (([] : va_W)) sz = A at hD hA hS hN ⊢
  rw [fX9_in] at hf
  refine lv_iload_n X.1 X.2.1 dX9_in_0 rfl (lv_at hl 0 rfl) ?_
  refine lv_iload_n X.1 X.2.1 dX9_in_1 rfl (lv_at hl 1 rfl) ?_
  refine lv_icmp_lt (tgt := 14) X.1 X.2.1 dX9_in_2 (by decide) (fun c1 => ?_) (fun c1 => ?_)
  · have hf := ite_t hf c1
    refine lv_iconst (v := 0) X.1 X.2.1 dX9_in_14 (by decide) ?_
    obtain rfl := z_inj1 hf
    exact z_zret X hr hlk (by decide) hP hD hS dX9_in_15
  · have hf := ite_f hf c1
    refine lv_iload_n X.1 X.2.1 dX9_in_5 rfl (lv_at hl 0 rfl) ?_
    refine lv_iload_n X.1 X.2.1 dX9_in_6 rfl (lv_at hl 2 rfl) ?_
    refine lv_icmp_gt (tgt := 14) X.1 X.2.1 dX9_in_7 (by decide) (fun c2 => ?_) (fun c2 => ?_)
    · have hf := ite_t hf c2
      refine lv_iconst (v := 0) X.1 X.2.1 dX9_in_14 (by decide) ?_
      obtain rfl := z_inj1 hf
      exact z_zret X hr hlk (by decide) hP hD hS dX9_in_15
    · have hf := ite_f hf c2
      refine lv_iconst (v := 1) X.1 X.2.1 dX9_in_10 (by decide) ?_
      refine lv_goto (tgt := 15) X.1 X.2.1 dX9_in_11 (by decide) ?_
      obtain rfl := z_inj1 hf
      exact z_zret X hr hlk (by decide) hP hD hS dX9_in_15
abbrev rmX9_isSteps : Room := { frames := 1, cells := 0, slots := 0, locals := 22 }
set_option maxHeartbeats 4000000 in
set_option maxRecDepth 100000 in
theorem kX9_isSteps (l : Launch) (D : va_G) (K : Nat → ClassId)   (sz : Nat) (x1 : Int32) (q_ : Int32) (hf : fX9_isSteps x1 = some q_) : Met l yX9_isSteps (bw (Cond.code yX9_isSteps cX9_isSteps 1 (some .boolean))) rmX9_isSteps (va_Pc [.int x1] (zB D K sz (([] : va_W)))) (zQ (some (.int q_)) D (va_A (([] : va_W)) sz) (([] : va_W))) 0 0 (va_A (([] : va_W)) sz) := by
  refine z_of (cc := cX9_isSteps) (maxL := 1) (ret := (some .boolean)) (own := RX9) (lv := [(0, .int x1)]) (by decide) rfl rfl (Nat.le_of_ble_eq_true rfl) rfl ?_
  intro p e s m below meth c X hr hlk hK hN hsz hP hD hA hS hin ls hl
  generalize va_A (([] : va_W)) sz = A at hD hA hS hN ⊢
  rw [fX9_isSteps] at hf
  refine lv_iload_n X.1 X.2.1 dX9_isSteps_0 rfl (lv_at hl 0 rfl) ?_
  refine lv_iconst (v := 0) X.1 X.2.1 dX9_isSteps_1 (by decide) ?_
  refine lv_sipush (v := 255) X.1 X.2.1 dX9_isSteps_2 (by decide) ?_
  obtain ⟨r1, hc2, hf⟩ := bd1_e hf
  refine z_S (n := 3) (As := [.int x1, .int 0, .int 255]) (rest := []) X hK hN (kX9_in l D K _ x1 0 255 r1 hc2) (bw_S W8_17 W8_18 W1_5 W8_19) rfl ⟨rfl, rfl⟩ (by decide +kernel) rfl ⟨Nat.le_of_ble_eq_true rfl, Nat.le_of_ble_eq_true rfl⟩ (fun _ _ h => by simp at h) ⟨fun _ _ _ _ h => by simp at h, fun _ _ h => by simp at h⟩ (zj_none hP hD hS hA) hS hl.1 rfl (Nat.le_of_ble_eq_true rfl) dX9_isSteps_5 ⟨Nat.zero_le _, Nat.zero_le _⟩ rfl (fun H locs hP hD hS => ?_)
  obtain ⟨hb1, hf⟩ := asr_e hf
  obtain rfl := z_inj1 hf
  exact z_zret X hr hlk hb1 hP hD hS dX9_isSteps_8
abbrev rmX9_byteAt : Room := { frames := 0, cells := 0, slots := 0, locals := 0 }
set_option maxHeartbeats 4000000 in
set_option maxRecDepth 100000 in
theorem kX9_byteAt (l : Launch) (D : va_G) (K : Nat → ClassId) (aM : Nat → Nat) (s0 : St) (sz : Nat) (x1 : Int32) (x2 : Int32) (q_ : Int32) (hf : fX9_byteAt s0 x1 x2 = some q_) : Met l yX9_byteAt (bw (Cond.code yX9_byteAt cX9_byteAt 3 (some .int))) rmX9_byteAt (va_Pc [.ref (aM 0), .int x1, .int x2] (zB D K sz (wbX9 K aM s0))) (zQ (some (.int q_)) D (va_A (wbX9 K aM s0) sz) (wbX9 K aM s0)) 0 0 (va_A (wbX9 K aM s0) sz) := by
  refine z_of (cc := cX9_byteAt) (maxL := 3) (ret := (some .int)) (own := RX9) (lv := [(0, .ref (aM 0)), (1, .int x1), (2, .int x2)]) (by decide) rfl rfl (Nat.le_of_ble_eq_true rfl) rfl ?_
  intro p e s m below meth c X hr hlk hK hN hsz hP hD hA hS hin ls hl
  generalize va_A (wbX9 K aM s0) sz = A at hD hA hS hN ⊢
  have hiX9 : ∀ w ∈ u_ws RX9 TX9 44, w ∈ (bw (Cond.code yX9_byteAt cX9_byteAt 3 (some .int))) := fun w h => bw_in (inlX9 w h)
  rw [fX9_byteAt] at hf
  refine lv_iload_n X.1 X.2.1 dX9_byteAt_0 rfl (lv_at hl 2 rfl) ?_
  refine lv_aload_n X.1 X.2.1 dX9_byteAt_1 rfl (lv_at hl 0 rfl) ?_
  refine z_get X hK hP hiX9 0 rfl rfl 0 (by decide) (bw_in W6_16) rfl dX9_byteAt_2 ?_
  refine lv_iload_n X.1 X.2.1 dX9_byteAt_5 rfl (lv_at hl 1 rfl) ?_
  obtain ⟨hi2, hf⟩ := chk_e hf
  obtain ⟨v1, ev1, hf⟩ := stp_e hf
  refine z_iald X hK hP 1 rfl hi2 ev1 dX9_byteAt_6 ?_
  refine lv_icmp_ge (tgt := 24) X.1 X.2.1 dX9_byteAt_7 (by decide) (fun c3 => ?_) (fun c3 => ?_)
  · have hf := ite_t hf c3
    refine lv_iconst (v := -1) X.1 X.2.1 dX9_byteAt_24 (by decide) ?_
    obtain rfl := z_inj1 hf
    exact z_iret X hr hlk hP hD hS dX9_byteAt_25
  · have hf := ite_f hf c3
    refine lv_aload_n X.1 X.2.1 dX9_byteAt_10 rfl (lv_at hl 0 rfl) ?_
    refine z_get X hK hP hiX9 0 rfl rfl 1 (by decide) (bw_in W6_17) rfl dX9_byteAt_11 ?_
    refine lv_bipush (v := 31) X.1 X.2.1 dX9_byteAt_14 (by decide) ?_
    refine lv_iload_n X.1 X.2.1 dX9_byteAt_16 rfl (lv_at hl 1 rfl) ?_
    refine lv_imul X.1 X.2.1 dX9_byteAt_17 ?_
    refine lv_iload_n X.1 X.2.1 dX9_byteAt_18 rfl (lv_at hl 2 rfl) ?_
    refine lv_iadd X.1 X.2.1 dX9_byteAt_19 ?_
    obtain ⟨hi5, hf⟩ := chk_e hf
    obtain ⟨v4, ev4, hf⟩ := stp_e hf
    refine z_iald X hK hP 2 rfl hi5 ev4 dX9_byteAt_20 ?_
    refine lv_goto (tgt := 25) X.1 X.2.1 dX9_byteAt_21 (by decide) ?_
    obtain rfl := z_inj1 hf
    exact z_iret X hr hlk hP hD hS dX9_byteAt_25
abbrev rmX9_figureAt : Room := { frames := 1, cells := 0, slots := 0, locals := 22 }
set_option maxHeartbeats 4000000 in
set_option maxRecDepth 100000 in
theorem kX9_figureAt (l : Launch) (D : va_G) (K : Nat → ClassId) (aM : Nat → Nat) (s0 : St) (sz : Nat) (x1 : Int32) (x2 : Int32) (x3 : Int32) (x4 : Int32) (q_ : Int32) (hf : fX9_figureAt s0 x1 x2 x3 x4 = some q_) : Met l yX9_figureAt (bw (Cond.code yX9_figureAt cX9_figureAt 6 (some .int))) rmX9_figureAt (va_Pc [.ref (aM 0), .int x1, .int x2, .int x3, .int x4] (zB D K sz (wbX9 K aM s0))) (zQ (some (.int q_)) D (va_A (wbX9 K aM s0) sz) (wbX9 K aM s0)) 0 0 (va_A (wbX9 K aM s0) sz) := by
  refine z_of (cc := cX9_figureAt) (maxL := 6) (ret := (some .int)) (own := RX9) (lv := [(0, .ref (aM 0)), (1, .int x1), (2, .int x2), (3, .int x3), (4, .int x4)]) (by decide) rfl rfl (Nat.le_of_ble_eq_true rfl) rfl ?_
  intro p e s m below meth c X hr hlk hK hN hsz hP hD hA hS hin ls hl
  generalize va_A (wbX9 K aM s0) sz = A at hD hA hS hN ⊢
  rw [fX9_figureAt] at hf
  refine lv_aload_n X.1 X.2.1 dX9_figureAt_0 rfl (lv_at hl 0 rfl) ?_
  refine lv_iload_n X.1 X.2.1 dX9_figureAt_1 rfl (lv_at hl 1 rfl) ?_
  refine lv_iload_n X.1 X.2.1 dX9_figureAt_2 rfl (lv_at hl 2 rfl) ?_
  obtain ⟨r1, hc2, hf⟩ := bd1_e hf
  refine z_V (n := 2) (As := [.int x1, .int x2]) (rest := []) (ci := 9) (q0 := 0) X hK hN (kX9_byteAt l D K aM s0 _ x1 x2 r1 hc2) (bw_V W10_22 W10_23 W11_0 W1_5 W11_1) rfl ⟨rfl, rfl⟩ (by decide +kernel) rfl ⟨Nat.le_of_ble_eq_true rfl, Nat.le_of_ble_eq_true rfl⟩ hP hD rfl rfl (zj_same hD hS hA) hS hl.1 rfl (Nat.le_of_ble_eq_true rfl) dX9_figureAt_3 ⟨Nat.zero_le _, Nat.zero_le _⟩ rfl (fun H locs hP hD hS => ?_)
  refine lv_bipush (v := 48) X.1 X.2.1 dX9_figureAt_6 (by decide) ?_
  refine lv_isub X.1 X.2.1 dX9_figureAt_8 ?_
  obtain ⟨w3, ew3, hf⟩ := stp_e hf
  refine z_top ew3 ?_
  refine lv_istore (lv' := [(5, .int w3), (0, .ref (aM 0)), (1, .int x1), (2, .int x2), (3, .int x3), (4, .int x4)]) X.1 X.2.1 dX9_figureAt_9 hl (by decide) rfl (fun ls hl => ?_)
  refine lv_iload X.1 X.2.1 dX9_figureAt_11 (lv_at hl 0 rfl) ?_
  refine lv_iload_n X.1 X.2.1 dX9_figureAt_13 rfl (lv_at hl 4 rfl) ?_
  refine lv_iload X.1 X.2.1 dX9_figureAt_14 (lv_at hl 5 rfl) ?_
  obtain ⟨r4, hc5, hf⟩ := bd1_e hf
  refine z_S (n := 3) (As := [.int w3, .int x3, .int x4]) (rest := []) X hK hN (kX9_in l D K _ w3 x3 x4 r4 hc5) (bw_S W8_17 W8_18 W1_5 W8_19) rfl ⟨rfl, rfl⟩ (by decide +kernel) rfl ⟨Nat.le_of_ble_eq_true rfl, Nat.le_of_ble_eq_true rfl⟩ (fun _ _ h => by simp at h) ⟨fun _ _ _ _ h => by simp at h, fun _ _ h => by simp at h⟩ (zj_none hP hD hS hA) hS hl.1 rfl (Nat.le_of_ble_eq_true rfl) dX9_figureAt_16 ⟨Nat.zero_le _, Nat.zero_le _⟩ rfl (fun H locs hP hD hS => ?_)
  refine lv_if_eq (tgt := 27) X.1 X.2.1 dX9_figureAt_19 (by decide) (fun c6 => ?_) (fun c6 => ?_)
  · have hf := ite_t hf c6
    refine lv_iconst (v := -1) X.1 X.2.1 dX9_figureAt_27 (by decide) ?_
    obtain rfl := z_inj1 hf
    exact z_iret X hr hlk hP hD hS dX9_figureAt_28
  · have hf := ite_f hf c6
    refine lv_iload X.1 X.2.1 dX9_figureAt_22 (lv_at hl 0 rfl) ?_
    refine lv_goto (tgt := 28) X.1 X.2.1 dX9_figureAt_24 (by decide) ?_
    obtain rfl := z_inj1 hf
    exact z_iret X hr hlk hP hD hS dX9_figureAt_28
abbrev rmX9_readsOne : Room := { frames := 2, cells := 0, slots := 0, locals := 47 }
set_option maxHeartbeats 4000000 in
set_option maxRecDepth 100000 in
theorem kX9_readsOne (l : Launch) (D : va_G) (K : Nat → ClassId) (aM : Nat → Nat) (s0 : St) (sz : Nat) (x1 : Int32) (x2 : Int32) (x3 : Int32) (q_ : Int32) (s_ : St) (hf : fX9_readsOne s0 x1 x2 x3 = some (q_, s_)) : Met l yX9_readsOne (bw (Cond.code yX9_readsOne cX9_readsOne 7 (some .int))) rmX9_readsOne (va_Pc [.ref (aM 0), .int x1, .int x2, .int x3] (zB D K sz (wbX9 K aM s0))) (zQ (some (.int q_)) D (va_A (wbX9 K aM s0) sz) (wbX9 K aM s_)) 0 0 (va_A (wbX9 K aM s0) sz) := by
  refine z_of (cc := cX9_readsOne) (maxL := 7) (ret := (some .int)) (own := RX9) (lv := [(0, .ref (aM 0)), (1, .int x1), (2, .int x2), (3, .int x3)]) (by decide) rfl rfl (Nat.le_of_ble_eq_true rfl) rfl ?_
  intro p e s m below meth c X hr hlk hK hN hsz hP hD hA hS hin ls hl
  generalize va_A (wbX9 K aM s0) sz = A at hD hA hS hN ⊢
  have hiX9 : ∀ w ∈ u_ws RX9 TX9 44, w ∈ (bw (Cond.code yX9_readsOne cX9_readsOne 7 (some .int))) := fun w h => bw_in (inlX9 w h)
  rw [fX9_readsOne] at hf
  refine lv_aload_n X.1 X.2.1 dX9_readsOne_0 rfl (lv_at hl 0 rfl) ?_
  refine lv_iload_n X.1 X.2.1 dX9_readsOne_1 rfl (lv_at hl 1 rfl) ?_
  refine lv_iload_n X.1 X.2.1 dX9_readsOne_2 rfl (lv_at hl 3 rfl) ?_
  refine lv_iload_n X.1 X.2.1 dX9_readsOne_3 rfl (lv_at hl 1 rfl) ?_
  refine lv_if_ne (tgt := 11) X.1 X.2.1 dX9_readsOne_4 (by decide) (fun c1 => ?_) (fun c1 => ?_)
  · have hf := ite_f hf c1
    refine lv_iconst (v := 0) X.1 X.2.1 dX9_readsOne_11 (by decide) ?_
    refine lv_bipush (v := 9) X.1 X.2.1 dX9_readsOne_12 (by decide) ?_
    obtain ⟨r2, hc3, hf⟩ := bd1_e hf
    refine z_V (n := 4) (As := [.int x1, .int x3, .int 0, .int 9]) (rest := []) (ci := 9) (q0 := 0) X hK hN (kX9_figureAt l D K aM s0 _ x1 x3 0 9 r2 hc3) (bw_V W10_18 W10_19 W10_20 W1_5 W10_21) rfl ⟨rfl, rfl⟩ (by decide +kernel) rfl ⟨Nat.le_of_ble_eq_true rfl, Nat.le_of_ble_eq_true rfl⟩ hP hD rfl rfl (zj_same hD hS hA) hS hl.1 rfl (Nat.le_of_ble_eq_true rfl) dX9_readsOne_14 ⟨Nat.zero_le _, Nat.zero_le _⟩ rfl (fun H locs hP hD hS => ?_)
    refine lv_istore (lv' := [(4, .int r2), (0, .ref (aM 0)), (1, .int x1), (2, .int x2), (3, .int x3)]) X.1 X.2.1 dX9_readsOne_17 hl (by decide) rfl (fun ls hl => ?_)
    refine lv_aload_n X.1 X.2.1 dX9_readsOne_19 rfl (lv_at hl 1 rfl) ?_
    refine lv_iload_n X.1 X.2.1 dX9_readsOne_20 rfl (lv_at hl 2 rfl) ?_
    refine lv_iload_n X.1 X.2.1 dX9_readsOne_21 rfl (lv_at hl 4 rfl) ?_
    refine lv_iconst (v := 1) X.1 X.2.1 dX9_readsOne_22 (by decide) ?_
    refine lv_iadd X.1 X.2.1 dX9_readsOne_23 ?_
    refine lv_iconst (v := 0) X.1 X.2.1 dX9_readsOne_24 (by decide) ?_
    refine lv_bipush (v := 9) X.1 X.2.1 dX9_readsOne_25 (by decide) ?_
    obtain ⟨r4, hc5, hf⟩ := bd1_e hf
    refine z_V (n := 4) (As := [.int x1, .int (x3 + 1), .int 0, .int 9]) (rest := []) (ci := 9) (q0 := 0) X hK hN (kX9_figureAt l D K aM s0 _ x1 (x3 + 1) 0 9 r4 hc5) (bw_V W10_18 W10_19 W10_20 W1_5 W10_21) rfl ⟨rfl, rfl⟩ (by decide +kernel) rfl ⟨Nat.le_of_ble_eq_true rfl, Nat.le_of_ble_eq_true rfl⟩ hP hD rfl rfl (zj_same hD hS hA) hS hl.1 rfl (Nat.le_of_ble_eq_true rfl) dX9_readsOne_27 ⟨Nat.zero_le _, Nat.zero_le _⟩ rfl (fun H locs hP hD hS => ?_)
    refine lv_istore (lv' := [(5, .int r4), (4, .int r2), (0, .ref (aM 0)), (1, .int x1), (2, .int x2), (3, .int x3)]) X.1 X.2.1 dX9_readsOne_30 hl (by decide) rfl (fun ls hl => ?_)
    refine lv_aload_n X.1 X.2.1 dX9_readsOne_32 rfl (lv_at hl 2 rfl) ?_
    refine lv_iload_n X.1 X.2.1 dX9_readsOne_33 rfl (lv_at hl 3 rfl) ?_
    refine lv_iload_n X.1 X.2.1 dX9_readsOne_34 rfl (lv_at hl 5 rfl) ?_
    refine lv_iconst (v := 2) X.1 X.2.1 dX9_readsOne_35 (by decide) ?_
    refine lv_iadd X.1 X.2.1 dX9_readsOne_36 ?_
    refine lv_iconst (v := 0) X.1 X.2.1 dX9_readsOne_37 (by decide) ?_
    refine lv_iload_n X.1 X.2.1 dX9_readsOne_38 rfl (lv_at hl 3 rfl) ?_
    refine lv_if_ne (tgt := 47) X.1 X.2.1 dX9_readsOne_39 (by decide) (fun _ => ?_) (fun c => absurd c c1)
    refine lv_bipush (v := 7) X.1 X.2.1 dX9_readsOne_47 (by decide) ?_
    obtain ⟨r6, hc7, hf⟩ := bd1_e hf
    refine z_V (n := 4) (As := [.int x1, .int (x3 + 2), .int 0, .int 7]) (rest := []) (ci := 9) (q0 := 0) X hK hN (kX9_figureAt l D K aM s0 _ x1 (x3 + 2) 0 7 r6 hc7) (bw_V W10_18 W10_19 W10_20 W1_5 W10_21) rfl ⟨rfl, rfl⟩ (by decide +kernel) rfl ⟨Nat.le_of_ble_eq_true rfl, Nat.le_of_ble_eq_true rfl⟩ hP hD rfl rfl (zj_same hD hS hA) hS hl.1 rfl (Nat.le_of_ble_eq_true rfl) dX9_readsOne_49 ⟨Nat.zero_le _, Nat.zero_le _⟩ rfl (fun H locs hP hD hS => ?_)
    refine lv_istore (lv' := [(6, .int r6), (5, .int r4), (4, .int r2), (0, .ref (aM 0)), (1, .int x1), (2, .int x2), (3, .int x3)]) X.1 X.2.1 dX9_readsOne_52 hl (by decide) rfl (fun ls hl => ?_)
    refine lv_iload X.1 X.2.1 dX9_readsOne_54 (lv_at hl 2 rfl) ?_
    refine lv_iconst (v := -1) X.1 X.2.1 dX9_readsOne_56 (by decide) ?_
    refine lv_icmp_ne (tgt := 62) X.1 X.2.1 dX9_readsOne_57 (by decide) (fun c8 => ?_) (fun c8 => ?_)
    · have hf := ite_f hf c8
      refine lv_iload X.1 X.2.1 dX9_readsOne_62 (lv_at hl 1 rfl) ?_
      refine lv_iconst (v := -1) X.1 X.2.1 dX9_readsOne_64 (by decide) ?_
      refine lv_icmp_ne (tgt := 70) X.1 X.2.1 dX9_readsOne_65 (by decide) (fun c9 => ?_) (fun c9 => ?_)
      · have hf := ite_f hf c9
        refine lv_iload X.1 X.2.1 dX9_readsOne_70 (lv_at hl 0 rfl) ?_
        refine lv_iconst (v := -1) X.1 X.2.1 dX9_readsOne_72 (by decide) ?_
        refine lv_icmp_ne (tgt := 78) X.1 X.2.1 dX9_readsOne_73 (by decide) (fun c10 => ?_) (fun c10 => ?_)
        · have hf := ite_f hf c10
          refine lv_iload_n X.1 X.2.1 dX9_readsOne_78 rfl (lv_at hl 4 rfl) ?_
          refine lv_if_ne (tgt := 109) X.1 X.2.1 dX9_readsOne_79 (by decide) (fun _ => ?_) (fun c => absurd c c1)
          refine lv_aload_n X.1 X.2.1 dX9_readsOne_109 rfl (lv_at hl 3 rfl) ?_
          refine z_get X hK hP hiX9 0 rfl rfl 7 (by decide) (bw_in W6_21) rfl dX9_readsOne_110 ?_
          refine lv_iload_n X.1 X.2.1 dX9_readsOne_113 rfl (lv_at hl 5 rfl) ?_
          refine lv_bipush (v := 10) X.1 X.2.1 dX9_readsOne_114 (by decide) ?_
          refine lv_iload X.1 X.2.1 dX9_readsOne_116 (lv_at hl 2 rfl) ?_
          refine lv_imul X.1 X.2.1 dX9_readsOne_118 ?_
          refine lv_iload X.1 X.2.1 dX9_readsOne_119 (lv_at hl 1 rfl) ?_
          refine lv_iadd X.1 X.2.1 dX9_readsOne_121 ?_
          obtain ⟨hi11, hf⟩ := chk_e hf
          obtain ⟨s12, es12, hf⟩ := stp_e hf
          refine z_iast (ws' := wbX9 K aM s12) X hK hP hD hS 6 rfl hi11 dX9_readsOne_122 (by rw [es12]; rfl) (fun H locs hP hD hS => ?_)
          refine lv_aload_n X.1 X.2.1 dX9_readsOne_123 rfl (lv_at hl 3 rfl) ?_
          refine z_get X hK hP hiX9 0 rfl rfl 8 (by decide) (bw_in W6_22) rfl dX9_readsOne_124 ?_
          refine lv_iload_n X.1 X.2.1 dX9_readsOne_127 rfl (lv_at hl 5 rfl) ?_
          refine lv_iload X.1 X.2.1 dX9_readsOne_128 (lv_at hl 0 rfl) ?_
          obtain ⟨hi13, hf⟩ := chk_e hf
          obtain ⟨s14, es14, hf⟩ := stp_e hf
          refine z_iast (ws' := wbX9 K aM s14) X hK hP hD hS 7 rfl hi13 dX9_readsOne_130 (by rw [es14]; rfl) (fun H locs hP hD hS => ?_)
          refine lv_iconst (v := 3) X.1 X.2.1 dX9_readsOne_131 (by decide) ?_
          obtain ⟨rfl, rfl⟩ := z_inj2 hf
          exact z_iret X hr hlk hP hD hS dX9_readsOne_132
        · have hf := ite_t hf c10
          refine lv_iconst (v := 2) X.1 X.2.1 dX9_readsOne_76 (by decide) ?_
          obtain ⟨rfl, rfl⟩ := z_inj2 hf
          exact z_iret X hr hlk hP hD hS dX9_readsOne_77
      · have hf := ite_t hf c9
        refine lv_iconst (v := 1) X.1 X.2.1 dX9_readsOne_68 (by decide) ?_
        obtain ⟨rfl, rfl⟩ := z_inj2 hf
        exact z_iret X hr hlk hP hD hS dX9_readsOne_69
    · have hf := ite_t hf c8
      refine lv_iconst (v := 0) X.1 X.2.1 dX9_readsOne_60 (by decide) ?_
      obtain ⟨rfl, rfl⟩ := z_inj2 hf
      exact z_iret X hr hlk hP hD hS dX9_readsOne_61
  · have hf := ite_t hf c1
    refine lv_iconst (v := 1) X.1 X.2.1 dX9_readsOne_7 (by decide) ?_
    refine lv_goto (tgt := 12) X.1 X.2.1 dX9_readsOne_8 (by decide) ?_
    refine lv_bipush (v := 9) X.1 X.2.1 dX9_readsOne_12 (by decide) ?_
    obtain ⟨r15, hc16, hf⟩ := bd1_e hf
    refine z_V (n := 4) (As := [.int x1, .int x3, .int 1, .int 9]) (rest := []) (ci := 9) (q0 := 0) X hK hN (kX9_figureAt l D K aM s0 _ x1 x3 1 9 r15 hc16) (bw_V W10_18 W10_19 W10_20 W1_5 W10_21) rfl ⟨rfl, rfl⟩ (by decide +kernel) rfl ⟨Nat.le_of_ble_eq_true rfl, Nat.le_of_ble_eq_true rfl⟩ hP hD rfl rfl (zj_same hD hS hA) hS hl.1 rfl (Nat.le_of_ble_eq_true rfl) dX9_readsOne_14 ⟨Nat.zero_le _, Nat.zero_le _⟩ rfl (fun H locs hP hD hS => ?_)
    refine lv_istore (lv' := [(4, .int r15), (0, .ref (aM 0)), (1, .int x1), (2, .int x2), (3, .int x3)]) X.1 X.2.1 dX9_readsOne_17 hl (by decide) rfl (fun ls hl => ?_)
    refine lv_aload_n X.1 X.2.1 dX9_readsOne_19 rfl (lv_at hl 1 rfl) ?_
    refine lv_iload_n X.1 X.2.1 dX9_readsOne_20 rfl (lv_at hl 2 rfl) ?_
    refine lv_iload_n X.1 X.2.1 dX9_readsOne_21 rfl (lv_at hl 4 rfl) ?_
    refine lv_iconst (v := 1) X.1 X.2.1 dX9_readsOne_22 (by decide) ?_
    refine lv_iadd X.1 X.2.1 dX9_readsOne_23 ?_
    refine lv_iconst (v := 0) X.1 X.2.1 dX9_readsOne_24 (by decide) ?_
    refine lv_bipush (v := 9) X.1 X.2.1 dX9_readsOne_25 (by decide) ?_
    obtain ⟨r17, hc18, hf⟩ := bd1_e hf
    refine z_V (n := 4) (As := [.int x1, .int (x3 + 1), .int 0, .int 9]) (rest := []) (ci := 9) (q0 := 0) X hK hN (kX9_figureAt l D K aM s0 _ x1 (x3 + 1) 0 9 r17 hc18) (bw_V W10_18 W10_19 W10_20 W1_5 W10_21) rfl ⟨rfl, rfl⟩ (by decide +kernel) rfl ⟨Nat.le_of_ble_eq_true rfl, Nat.le_of_ble_eq_true rfl⟩ hP hD rfl rfl (zj_same hD hS hA) hS hl.1 rfl (Nat.le_of_ble_eq_true rfl) dX9_readsOne_27 ⟨Nat.zero_le _, Nat.zero_le _⟩ rfl (fun H locs hP hD hS => ?_)
    refine lv_istore (lv' := [(5, .int r17), (4, .int r15), (0, .ref (aM 0)), (1, .int x1), (2, .int x2), (3, .int x3)]) X.1 X.2.1 dX9_readsOne_30 hl (by decide) rfl (fun ls hl => ?_)
    refine lv_aload_n X.1 X.2.1 dX9_readsOne_32 rfl (lv_at hl 2 rfl) ?_
    refine lv_iload_n X.1 X.2.1 dX9_readsOne_33 rfl (lv_at hl 3 rfl) ?_
    refine lv_iload_n X.1 X.2.1 dX9_readsOne_34 rfl (lv_at hl 5 rfl) ?_
    refine lv_iconst (v := 2) X.1 X.2.1 dX9_readsOne_35 (by decide) ?_
    refine lv_iadd X.1 X.2.1 dX9_readsOne_36 ?_
    refine lv_iconst (v := 0) X.1 X.2.1 dX9_readsOne_37 (by decide) ?_
    refine lv_iload_n X.1 X.2.1 dX9_readsOne_38 rfl (lv_at hl 3 rfl) ?_
    refine lv_if_ne (tgt := 47) X.1 X.2.1 dX9_readsOne_39 (by decide) (fun c => absurd c1 c) (fun _ => ?_)
    refine lv_bipush (v := 9) X.1 X.2.1 dX9_readsOne_42 (by decide) ?_
    refine lv_goto (tgt := 49) X.1 X.2.1 dX9_readsOne_44 (by decide) ?_
    obtain ⟨r19, hc20, hf⟩ := bd1_e hf
    refine z_V (n := 4) (As := [.int x1, .int (x3 + 2), .int 0, .int 9]) (rest := []) (ci := 9) (q0 := 0) X hK hN (kX9_figureAt l D K aM s0 _ x1 (x3 + 2) 0 9 r19 hc20) (bw_V W10_18 W10_19 W10_20 W1_5 W10_21) rfl ⟨rfl, rfl⟩ (by decide +kernel) rfl ⟨Nat.le_of_ble_eq_true rfl, Nat.le_of_ble_eq_true rfl⟩ hP hD rfl rfl (zj_same hD hS hA) hS hl.1 rfl (Nat.le_of_ble_eq_true rfl) dX9_readsOne_49 ⟨Nat.zero_le _, Nat.zero_le _⟩ rfl (fun H locs hP hD hS => ?_)
    refine lv_istore (lv' := [(6, .int r19), (5, .int r17), (4, .int r15), (0, .ref (aM 0)), (1, .int x1), (2, .int x2), (3, .int x3)]) X.1 X.2.1 dX9_readsOne_52 hl (by decide) rfl (fun ls hl => ?_)
    refine lv_iload X.1 X.2.1 dX9_readsOne_54 (lv_at hl 2 rfl) ?_
    refine lv_iconst (v := -1) X.1 X.2.1 dX9_readsOne_56 (by decide) ?_
    refine lv_icmp_ne (tgt := 62) X.1 X.2.1 dX9_readsOne_57 (by decide) (fun c21 => ?_) (fun c21 => ?_)
    · have hf := ite_f hf c21
      refine lv_iload X.1 X.2.1 dX9_readsOne_62 (lv_at hl 1 rfl) ?_
      refine lv_iconst (v := -1) X.1 X.2.1 dX9_readsOne_64 (by decide) ?_
      refine lv_icmp_ne (tgt := 70) X.1 X.2.1 dX9_readsOne_65 (by decide) (fun c22 => ?_) (fun c22 => ?_)
      · have hf := ite_f hf c22
        refine lv_iload X.1 X.2.1 dX9_readsOne_70 (lv_at hl 0 rfl) ?_
        refine lv_iconst (v := -1) X.1 X.2.1 dX9_readsOne_72 (by decide) ?_
        refine lv_icmp_ne (tgt := 78) X.1 X.2.1 dX9_readsOne_73 (by decide) (fun c23 => ?_) (fun c23 => ?_)
        · have hf := ite_f hf c23
          refine lv_iload_n X.1 X.2.1 dX9_readsOne_78 rfl (lv_at hl 4 rfl) ?_
          refine lv_if_ne (tgt := 109) X.1 X.2.1 dX9_readsOne_79 (by decide) (fun c => absurd c1 c) (fun _ => ?_)
          refine lv_aload_n X.1 X.2.1 dX9_readsOne_82 rfl (lv_at hl 3 rfl) ?_
          refine z_get X hK hP hiX9 0 rfl rfl 3 (by decide) (bw_in W6_18) rfl dX9_readsOne_83 ?_
          refine lv_iload_n X.1 X.2.1 dX9_readsOne_86 rfl (lv_at hl 5 rfl) ?_
          refine lv_iload X.1 X.2.1 dX9_readsOne_87 (lv_at hl 2 rfl) ?_
          obtain ⟨hi24, hf⟩ := chk_e hf
          obtain ⟨s25, es25, hf⟩ := stp_e hf
          refine z_iast (ws' := wbX9 K aM s25) X hK hP hD hS 3 rfl hi24 dX9_readsOne_89 (by rw [es25]; rfl) (fun H locs hP hD hS => ?_)
          refine lv_aload_n X.1 X.2.1 dX9_readsOne_90 rfl (lv_at hl 3 rfl) ?_
          refine z_get X hK hP hiX9 0 rfl rfl 4 (by decide) (bw_in W6_19) rfl dX9_readsOne_91 ?_
          refine lv_iload_n X.1 X.2.1 dX9_readsOne_94 rfl (lv_at hl 5 rfl) ?_
          refine lv_iload X.1 X.2.1 dX9_readsOne_95 (lv_at hl 1 rfl) ?_
          obtain ⟨hi26, hf⟩ := chk_e hf
          obtain ⟨s27, es27, hf⟩ := stp_e hf
          refine z_iast (ws' := wbX9 K aM s27) X hK hP hD hS 4 rfl hi26 dX9_readsOne_97 (by rw [es27]; rfl) (fun H locs hP hD hS => ?_)
          refine lv_aload_n X.1 X.2.1 dX9_readsOne_98 rfl (lv_at hl 3 rfl) ?_
          refine z_get X hK hP hiX9 0 rfl rfl 5 (by decide) (bw_in W6_20) rfl dX9_readsOne_99 ?_
          refine lv_iload_n X.1 X.2.1 dX9_readsOne_102 rfl (lv_at hl 5 rfl) ?_
          refine lv_iload X.1 X.2.1 dX9_readsOne_103 (lv_at hl 0 rfl) ?_
          obtain ⟨hi28, hf⟩ := chk_e hf
          obtain ⟨s29, es29, hf⟩ := stp_e hf
          refine z_iast (ws' := wbX9 K aM s29) X hK hP hD hS 5 rfl hi28 dX9_readsOne_105 (by rw [es29]; rfl) (fun H locs hP hD hS => ?_)
          refine lv_goto (tgt := 131) X.1 X.2.1 dX9_readsOne_106 (by decide) ?_
          refine lv_iconst (v := 3) X.1 X.2.1 dX9_readsOne_131 (by decide) ?_
          obtain ⟨rfl, rfl⟩ := z_inj2 hf
          exact z_iret X hr hlk hP hD hS dX9_readsOne_132
        · have hf := ite_t hf c23
          refine lv_iconst (v := 2) X.1 X.2.1 dX9_readsOne_76 (by decide) ?_
          obtain ⟨rfl, rfl⟩ := z_inj2 hf
          exact z_iret X hr hlk hP hD hS dX9_readsOne_77
      · have hf := ite_t hf c22
        refine lv_iconst (v := 1) X.1 X.2.1 dX9_readsOne_68 (by decide) ?_
        obtain ⟨rfl, rfl⟩ := z_inj2 hf
        exact z_iret X hr hlk hP hD hS dX9_readsOne_69
    · have hf := ite_t hf c21
      refine lv_iconst (v := 0) X.1 X.2.1 dX9_readsOne_60 (by decide) ?_
      obtain ⟨rfl, rfl⟩ := z_inj2 hf
      exact z_iret X hr hlk hP hD hS dX9_readsOne_61
abbrev rmX9_readsParts : Room := { frames := 3, cells := 0, slots := 0, locals := 73 }
set_option maxHeartbeats 4000000 in
set_option maxRecDepth 100000 in
theorem kX9_readsParts (l : Launch) (D : va_G) (K : Nat → ClassId) (aM : Nat → Nat) (s0 : St) (sz : Nat) (x1 : Int32) (q_ : Int32) (s_ : St) (hf : fX9_readsParts s0 x1 = some (q_, s_)) : Met l yX9_readsParts (bw (Cond.code yX9_readsParts cX9_readsParts 5 (some .int))) rmX9_readsParts (va_Pc [.ref (aM 0), .int x1] (zB D K sz (wbX9 K aM s0))) (zQ (some (.int q_)) D (va_A (wbX9 K aM s0) sz) (wbX9 K aM s_)) 0 0 (va_A (wbX9 K aM s0) sz) := by
  refine z_of (cc := cX9_readsParts) (maxL := 5) (ret := (some .int)) (own := RX9) (lv := [(0, .ref (aM 0)), (1, .int x1)]) (by decide) rfl rfl (Nat.le_of_ble_eq_true rfl) rfl ?_
  intro p e s m below meth c X hr hlk hK hN hsz hP hD hA hS hin ls hl
  generalize va_A (wbX9 K aM s0) sz = A at hD hA hS hN ⊢
  have hiX9 : ∀ w ∈ u_ws RX9 TX9 44, w ∈ (bw (Cond.code yX9_readsParts cX9_readsParts 5 (some .int))) := fun w h => bw_in (inlX9 w h)
  have L37_0 : ∀ (n : Nat), ∀ (n37_0 : Int32) (n37_1 : Int32) (n37_2 : Int32) (q37_M : St), fX9_readsParts_37 n n37_0 n37_1 n37_2 q37_M = some ((q_, s_)) → ∀ (H : Heap) (locs : List Loc), va_P D vwCl (wbX9 K aM q37_M) H → va_D A (wbX9 K aM q37_M) → va_S A s.heap H locs → ∀ (ls : Array Slot), lv_has ls 5 [(0, .ref (aM 0)), (1, .int n37_0), (2, .int n37_1), (3, .int n37_2)] → W p l e rmX9_readsParts s m ([.ref (aM 0), .int x1] : List Value).toArray below meth c H locs 0 0 (MQ below (zQ (some (.int q_)) D A (wbX9 K aM s_)) ([.ref (aM 0), .int x1] : List Value).toArray s 0 0 A) (F0 m 37 ls []) := by
    intro n
    induction n with
    | zero =>
      intro n37_0 n37_1 n37_2 q37_M hf
      rw [fX9_readsParts_37] at hf
      cases hf
    | succ n ih =>
      intro n37_0 n37_1 n37_2 q37_M hf H locs hP hD hS ls hl
      rw [fX9_readsParts_37] at hf
      refine lv_iload_n X.1 X.2.1 dX9_readsParts_37 rfl (lv_at hl 3 rfl) ?_
      refine lv_aload_n X.1 X.2.1 dX9_readsParts_38 rfl (lv_at hl 0 rfl) ?_
      refine z_get X hK hP hiX9 0 rfl rfl 0 (by decide) (bw_in W6_16) rfl dX9_readsParts_39 ?_
      refine lv_iload_n X.1 X.2.1 dX9_readsParts_42 rfl (lv_at hl 1 rfl) ?_
      obtain ⟨hi6, hf⟩ := chk_e hf
      obtain ⟨v5, ev5, hf⟩ := stp_e hf
      refine z_iald X hK hP 1 rfl hi6 ev5 dX9_readsParts_43 ?_
      refine lv_icmp_lt (tgt := 51) X.1 X.2.1 dX9_readsParts_44 (by decide) (fun c7 => ?_) (fun c7 => ?_)
      · have hf := ite_t hf c7
        refine lv_iload_n X.1 X.2.1 dX9_readsParts_51 rfl (lv_at hl 2 rfl) ?_
        refine lv_bipush (v := 8) X.1 X.2.1 dX9_readsParts_52 (by decide) ?_
        refine lv_icmp_ne (tgt := 61) X.1 X.2.1 dX9_readsParts_54 (by decide) (fun c8 => ?_) (fun c8 => ?_)
        · have hf := ite_f hf c8
          refine lv_aload_n X.1 X.2.1 dX9_readsParts_61 rfl (lv_at hl 0 rfl) ?_
          refine lv_iload_n X.1 X.2.1 dX9_readsParts_62 rfl (lv_at hl 1 rfl) ?_
          refine lv_iload_n X.1 X.2.1 dX9_readsParts_63 rfl (lv_at hl 2 rfl) ?_
          refine lv_iload_n X.1 X.2.1 dX9_readsParts_64 rfl (lv_at hl 3 rfl) ?_
          obtain ⟨r9, s10, hc11, hf⟩ := bd2_e hf
          refine z_V (n := 3) (As := [.int n37_0, .int n37_1, .int n37_2]) (rest := []) (ci := 9) (q0 := 0) X hK hN (kX9_readsOne l D K aM q37_M _ n37_0 n37_1 n37_2 r9 s10 hc11) (bw_V W10_14 W10_15 W10_16 W1_5 W10_17) rfl ⟨rfl, rfl⟩ (by decide +kernel) rfl ⟨Nat.le_of_ble_eq_true rfl, Nat.le_of_ble_eq_true rfl⟩ hP hD rfl rfl (zj_same hD hS hA) hS hl.1 rfl (Nat.le_of_ble_eq_true rfl) dX9_readsParts_65 ⟨Nat.zero_le _, Nat.zero_le _⟩ rfl (fun H locs hP hD hS => ?_)
          refine lv_istore (lv' := [(4, .int r9), (0, .ref (aM 0)), (1, .int n37_0), (2, .int n37_1), (3, .int n37_2)]) X.1 X.2.1 dX9_readsParts_68 hl (by decide) rfl (fun ls hl => ?_)
          refine lv_iload X.1 X.2.1 dX9_readsParts_70 (lv_at hl 0 rfl) ?_
          refine lv_iconst (v := 3) X.1 X.2.1 dX9_readsParts_72 (by decide) ?_
          refine lv_icmp_ge (tgt := 81) X.1 X.2.1 dX9_readsParts_73 (by decide) (fun c12 => ?_) (fun c12 => ?_)
          · have hf := ite_t hf c12
            obtain ⟨w13, ew13, hf⟩ := stp_e hf
            refine lv_iinc (v := w13) (lv' := [(2, .int w13), (4, .int r9), (0, .ref (aM 0)), (1, .int n37_0), (3, .int n37_2)]) X.1 X.2.1 dX9_readsParts_81 hl (k := 3) rfl (by rw [ew13]; rfl) (by decide) rfl (fun ls hl => ?_)
            obtain ⟨w14, ew14, hf⟩ := stp_e hf
            refine lv_iinc (v := w14) (lv' := [(3, .int w14), (2, .int w13), (4, .int r9), (0, .ref (aM 0)), (1, .int n37_0)]) X.1 X.2.1 dX9_readsParts_84 hl (k := 4) rfl (by rw [ew14]; rfl) (by decide) rfl (fun ls hl => ?_)
            refine lv_iload_n X.1 X.2.1 dX9_readsParts_87 rfl (lv_at hl 0 rfl) ?_
            refine lv_aload_n X.1 X.2.1 dX9_readsParts_88 rfl (lv_at hl 3 rfl) ?_
            refine z_get X hK hP hiX9 0 rfl rfl 0 (by decide) (bw_in W6_16) rfl dX9_readsParts_89 ?_
            refine lv_iload_n X.1 X.2.1 dX9_readsParts_92 rfl (lv_at hl 4 rfl) ?_
            obtain ⟨hi16, hf⟩ := chk_e hf
            obtain ⟨v15, ev15, hf⟩ := stp_e hf
            refine z_iald X hK hP 1 rfl hi16 ev15 dX9_readsParts_93 ?_
            refine lv_icmp_ne (tgt := 132) X.1 X.2.1 dX9_readsParts_94 (by decide) (fun c17 => ?_) (fun c17 => ?_)
            · have hf := ite_f hf c17
              refine lv_aload_n X.1 X.2.1 dX9_readsParts_132 rfl (lv_at hl 3 rfl) ?_
              refine lv_iload_n X.1 X.2.1 dX9_readsParts_133 rfl (lv_at hl 4 rfl) ?_
              refine lv_iload_n X.1 X.2.1 dX9_readsParts_134 rfl (lv_at hl 0 rfl) ?_
              obtain ⟨r18, hc19, hf⟩ := bd1_e hf
              refine z_V (n := 2) (As := [.int n37_0, .int w14]) (rest := []) (ci := 9) (q0 := 0) X hK hN (kX9_byteAt l D K aM s10 _ n37_0 w14 r18 hc19) (bw_V W10_22 W10_23 W11_0 W1_5 W11_1) rfl ⟨rfl, rfl⟩ (by decide +kernel) rfl ⟨Nat.le_of_ble_eq_true rfl, Nat.le_of_ble_eq_true rfl⟩ hP hD rfl rfl (zj_same hD hS hA) hS hl.1 rfl (Nat.le_of_ble_eq_true rfl) dX9_readsParts_135 ⟨Nat.zero_le _, Nat.zero_le _⟩ rfl (fun H locs hP hD hS => ?_)
              refine lv_bipush (v := 59) X.1 X.2.1 dX9_readsParts_138 (by decide) ?_
              refine lv_icmp_eq (tgt := 145) X.1 X.2.1 dX9_readsParts_140 (by decide) (fun c20 => ?_) (fun c20 => ?_)
              · have hf := ite_t hf c20
                obtain ⟨w21, ew21, hf⟩ := stp_e hf
                refine lv_iinc (v := w21) (lv' := [(3, .int w21), (2, .int w13), (4, .int r9), (0, .ref (aM 0)), (1, .int n37_0)]) X.1 X.2.1 dX9_readsParts_145 hl (k := 0) rfl (by rw [ew21]; rfl) (by decide) rfl (fun ls hl => ?_)
                refine lv_goto (tgt := 37) X.1 X.2.1 dX9_readsParts_148 (by decide) ?_
                exact ih _ _ _ _ hf _ _ hP hD hS _ (lv_sub hl [3, 4, 1, 0] rfl)
              · have hf := ite_f hf c20
                refine lv_iload_n X.1 X.2.1 dX9_readsParts_143 rfl (lv_at hl 0 rfl) ?_
                obtain ⟨rfl, rfl⟩ := z_inj2 hf
                exact z_iret X hr hlk hP hD hS dX9_readsParts_144
            · have hf := ite_t hf c17
              refine lv_aload_n X.1 X.2.1 dX9_readsParts_97 rfl (lv_at hl 3 rfl) ?_
              refine lv_iload_n X.1 X.2.1 dX9_readsParts_98 rfl (lv_at hl 4 rfl) ?_
              refine lv_if_ne (tgt := 106) X.1 X.2.1 dX9_readsParts_99 (by decide) (fun c22 => ?_) (fun c22 => ?_)
              · have hf := ite_f hf c22
                refine lv_aload_n X.1 X.2.1 dX9_readsParts_106 rfl (lv_at hl 3 rfl) ?_
                refine z_get X hK hP hiX9 0 rfl rfl 2 (by decide) (bw_in W10_12) rfl dX9_readsParts_107 ?_
                obtain ⟨s23, es23, hf⟩ := stp_e hf
                refine z_put (ws' := wbX9 K aM s23) X hK hP hD hS hiX9 tyX9_ok nmX9 0 rfl rfl 2 (by decide) (bw_in W10_12) rfl rfl rfl (Nat.le_of_ble_eq_true rfl) dX9_readsParts_110 (by rw [es23]; rfl) (fun H locs hP hD hS => ?_)
                refine lv_aload_n X.1 X.2.1 dX9_readsParts_113 rfl (lv_at hl 3 rfl) ?_
                refine lv_iload_n X.1 X.2.1 dX9_readsParts_114 rfl (lv_at hl 4 rfl) ?_
                refine lv_iconst (v := 1) X.1 X.2.1 dX9_readsParts_115 (by decide) ?_
                refine lv_icmp_ne (tgt := 123) X.1 X.2.1 dX9_readsParts_116 (by decide) (fun c24 => ?_) (fun c24 => ?_)
                · have hf := ite_f hf c24
                  refine lv_aload_n X.1 X.2.1 dX9_readsParts_123 rfl (lv_at hl 3 rfl) ?_
                  refine z_get X hK hP hiX9 0 rfl rfl 6 (by decide) (bw_in W10_13) rfl dX9_readsParts_124 ?_
                  obtain ⟨s25, es25, hf⟩ := stp_e hf
                  refine z_put (ws' := wbX9 K aM s25) X hK hP hD hS hiX9 tyX9_ok nmX9 0 rfl rfl 6 (by decide) (bw_in W10_13) rfl rfl rfl (Nat.le_of_ble_eq_true rfl) dX9_readsParts_127 (by rw [es25]; rfl) (fun H locs hP hD hS => ?_)
                  refine lv_iconst (v := -1) X.1 X.2.1 dX9_readsParts_130 (by decide) ?_
                  obtain ⟨rfl, rfl⟩ := z_inj2 hf
                  exact z_iret X hr hlk hP hD hS dX9_readsParts_131
                · have hf := ite_t hf c24
                  refine lv_iload_n X.1 X.2.1 dX9_readsParts_119 rfl (lv_at hl 1 rfl) ?_
                  refine lv_goto (tgt := 127) X.1 X.2.1 dX9_readsParts_120 (by decide) ?_
                  obtain ⟨s26, es26, hf⟩ := stp_e hf
                  refine z_put (ws' := wbX9 K aM s26) X hK hP hD hS hiX9 tyX9_ok nmX9 0 rfl rfl 6 (by decide) (bw_in W10_13) rfl rfl rfl (Nat.le_of_ble_eq_true rfl) dX9_readsParts_127 (by rw [es26]; rfl) (fun H locs hP hD hS => ?_)
                  refine lv_iconst (v := -1) X.1 X.2.1 dX9_readsParts_130 (by decide) ?_
                  obtain ⟨rfl, rfl⟩ := z_inj2 hf
                  exact z_iret X hr hlk hP hD hS dX9_readsParts_131
              · have hf := ite_t hf c22
                refine lv_iload_n X.1 X.2.1 dX9_readsParts_102 rfl (lv_at hl 1 rfl) ?_
                refine lv_goto (tgt := 110) X.1 X.2.1 dX9_readsParts_103 (by decide) ?_
                obtain ⟨s27, es27, hf⟩ := stp_e hf
                refine z_put (ws' := wbX9 K aM s27) X hK hP hD hS hiX9 tyX9_ok nmX9 0 rfl rfl 2 (by decide) (bw_in W10_12) rfl rfl rfl (Nat.le_of_ble_eq_true rfl) dX9_readsParts_110 (by rw [es27]; rfl) (fun H locs hP hD hS => ?_)
                refine lv_aload_n X.1 X.2.1 dX9_readsParts_113 rfl (lv_at hl 3 rfl) ?_
                refine lv_iload_n X.1 X.2.1 dX9_readsParts_114 rfl (lv_at hl 4 rfl) ?_
                refine lv_iconst (v := 1) X.1 X.2.1 dX9_readsParts_115 (by decide) ?_
                refine lv_icmp_ne (tgt := 123) X.1 X.2.1 dX9_readsParts_116 (by decide) (fun c28 => ?_) (fun c28 => ?_)
                · have hf := ite_f hf c28
                  refine lv_aload_n X.1 X.2.1 dX9_readsParts_123 rfl (lv_at hl 3 rfl) ?_
                  refine z_get X hK hP hiX9 0 rfl rfl 6 (by decide) (bw_in W10_13) rfl dX9_readsParts_124 ?_
                  obtain ⟨s29, es29, hf⟩ := stp_e hf
                  refine z_put (ws' := wbX9 K aM s29) X hK hP hD hS hiX9 tyX9_ok nmX9 0 rfl rfl 6 (by decide) (bw_in W10_13) rfl rfl rfl (Nat.le_of_ble_eq_true rfl) dX9_readsParts_127 (by rw [es29]; rfl) (fun H locs hP hD hS => ?_)
                  refine lv_iconst (v := -1) X.1 X.2.1 dX9_readsParts_130 (by decide) ?_
                  obtain ⟨rfl, rfl⟩ := z_inj2 hf
                  exact z_iret X hr hlk hP hD hS dX9_readsParts_131
                · have hf := ite_t hf c28
                  refine lv_iload_n X.1 X.2.1 dX9_readsParts_119 rfl (lv_at hl 1 rfl) ?_
                  refine lv_goto (tgt := 127) X.1 X.2.1 dX9_readsParts_120 (by decide) ?_
                  obtain ⟨s30, es30, hf⟩ := stp_e hf
                  refine z_put (ws' := wbX9 K aM s30) X hK hP hD hS hiX9 tyX9_ok nmX9 0 rfl rfl 6 (by decide) (bw_in W10_13) rfl rfl rfl (Nat.le_of_ble_eq_true rfl) dX9_readsParts_127 (by rw [es30]; rfl) (fun H locs hP hD hS => ?_)
                  refine lv_iconst (v := -1) X.1 X.2.1 dX9_readsParts_130 (by decide) ?_
                  obtain ⟨rfl, rfl⟩ := z_inj2 hf
                  exact z_iret X hr hlk hP hD hS dX9_readsParts_131
          · have hf := ite_f hf c12
            refine lv_iload_n X.1 X.2.1 dX9_readsParts_76 rfl (lv_at hl 4 rfl) ?_
            refine lv_iload X.1 X.2.1 dX9_readsParts_77 (lv_at hl 0 rfl) ?_
            refine lv_iadd X.1 X.2.1 dX9_readsParts_79 ?_
            obtain ⟨rfl, rfl⟩ := z_inj2 hf
            exact z_iret X hr hlk hP hD hS dX9_readsParts_80
        · have hf := ite_t hf c8
          refine lv_iconst (v := 0) X.1 X.2.1 dX9_readsParts_57 (by decide) ?_
          refine lv_goto (tgt := 68) X.1 X.2.1 dX9_readsParts_58 (by decide) ?_
          refine lv_istore (lv' := [(4, .int 0), (0, .ref (aM 0)), (1, .int n37_0), (2, .int n37_1), (3, .int n37_2)]) X.1 X.2.1 dX9_readsParts_68 hl (by decide) rfl (fun ls hl => ?_)
          refine lv_iload X.1 X.2.1 dX9_readsParts_70 (lv_at hl 0 rfl) ?_
          refine lv_iconst (v := 3) X.1 X.2.1 dX9_readsParts_72 (by decide) ?_
          refine lv_icmp_ge (tgt := 81) X.1 X.2.1 dX9_readsParts_73 (by decide) (fun c => absurd c (by decide)) (fun _ => ?_)
          refine lv_iload_n X.1 X.2.1 dX9_readsParts_76 rfl (lv_at hl 4 rfl) ?_
          refine lv_iload X.1 X.2.1 dX9_readsParts_77 (lv_at hl 0 rfl) ?_
          refine lv_iadd X.1 X.2.1 dX9_readsParts_79 ?_
          obtain ⟨rfl, rfl⟩ := z_inj2 hf
          exact z_iret X hr hlk hP hD hS dX9_readsParts_80
      · have hf := ite_f hf c7
        refine lv_iload_n X.1 X.2.1 dX9_readsParts_47 rfl (lv_at hl 3 rfl) ?_
        refine lv_if_le (tgt := 151) X.1 X.2.1 dX9_readsParts_48 (by decide) (fun c31 => ?_) (fun c31 => ?_)
        · have hf := ite_t hf c31
          refine lv_iconst (v := -1) X.1 X.2.1 dX9_readsParts_151 (by decide) ?_
          obtain ⟨rfl, rfl⟩ := z_inj2 hf
          exact z_iret X hr hlk hP hD hS dX9_readsParts_152
        · have hf := ite_f hf c31
          refine lv_iload_n X.1 X.2.1 dX9_readsParts_51 rfl (lv_at hl 2 rfl) ?_
          refine lv_bipush (v := 8) X.1 X.2.1 dX9_readsParts_52 (by decide) ?_
          refine lv_icmp_ne (tgt := 61) X.1 X.2.1 dX9_readsParts_54 (by decide) (fun c32 => ?_) (fun c32 => ?_)
          · have hf := ite_f hf c32
            refine lv_aload_n X.1 X.2.1 dX9_readsParts_61 rfl (lv_at hl 0 rfl) ?_
            refine lv_iload_n X.1 X.2.1 dX9_readsParts_62 rfl (lv_at hl 1 rfl) ?_
            refine lv_iload_n X.1 X.2.1 dX9_readsParts_63 rfl (lv_at hl 2 rfl) ?_
            refine lv_iload_n X.1 X.2.1 dX9_readsParts_64 rfl (lv_at hl 3 rfl) ?_
            obtain ⟨r33, s34, hc35, hf⟩ := bd2_e hf
            refine z_V (n := 3) (As := [.int n37_0, .int n37_1, .int n37_2]) (rest := []) (ci := 9) (q0 := 0) X hK hN (kX9_readsOne l D K aM q37_M _ n37_0 n37_1 n37_2 r33 s34 hc35) (bw_V W10_14 W10_15 W10_16 W1_5 W10_17) rfl ⟨rfl, rfl⟩ (by decide +kernel) rfl ⟨Nat.le_of_ble_eq_true rfl, Nat.le_of_ble_eq_true rfl⟩ hP hD rfl rfl (zj_same hD hS hA) hS hl.1 rfl (Nat.le_of_ble_eq_true rfl) dX9_readsParts_65 ⟨Nat.zero_le _, Nat.zero_le _⟩ rfl (fun H locs hP hD hS => ?_)
            refine lv_istore (lv' := [(4, .int r33), (0, .ref (aM 0)), (1, .int n37_0), (2, .int n37_1), (3, .int n37_2)]) X.1 X.2.1 dX9_readsParts_68 hl (by decide) rfl (fun ls hl => ?_)
            refine lv_iload X.1 X.2.1 dX9_readsParts_70 (lv_at hl 0 rfl) ?_
            refine lv_iconst (v := 3) X.1 X.2.1 dX9_readsParts_72 (by decide) ?_
            refine lv_icmp_ge (tgt := 81) X.1 X.2.1 dX9_readsParts_73 (by decide) (fun c36 => ?_) (fun c36 => ?_)
            · have hf := ite_t hf c36
              obtain ⟨w37, ew37, hf⟩ := stp_e hf
              refine lv_iinc (v := w37) (lv' := [(2, .int w37), (4, .int r33), (0, .ref (aM 0)), (1, .int n37_0), (3, .int n37_2)]) X.1 X.2.1 dX9_readsParts_81 hl (k := 3) rfl (by rw [ew37]; rfl) (by decide) rfl (fun ls hl => ?_)
              obtain ⟨w38, ew38, hf⟩ := stp_e hf
              refine lv_iinc (v := w38) (lv' := [(3, .int w38), (2, .int w37), (4, .int r33), (0, .ref (aM 0)), (1, .int n37_0)]) X.1 X.2.1 dX9_readsParts_84 hl (k := 4) rfl (by rw [ew38]; rfl) (by decide) rfl (fun ls hl => ?_)
              refine lv_iload_n X.1 X.2.1 dX9_readsParts_87 rfl (lv_at hl 0 rfl) ?_
              refine lv_aload_n X.1 X.2.1 dX9_readsParts_88 rfl (lv_at hl 3 rfl) ?_
              refine z_get X hK hP hiX9 0 rfl rfl 0 (by decide) (bw_in W6_16) rfl dX9_readsParts_89 ?_
              refine lv_iload_n X.1 X.2.1 dX9_readsParts_92 rfl (lv_at hl 4 rfl) ?_
              obtain ⟨hi40, hf⟩ := chk_e hf
              obtain ⟨v39, ev39, hf⟩ := stp_e hf
              refine z_iald X hK hP 1 rfl hi40 ev39 dX9_readsParts_93 ?_
              refine lv_icmp_ne (tgt := 132) X.1 X.2.1 dX9_readsParts_94 (by decide) (fun c41 => ?_) (fun c41 => ?_)
              · have hf := ite_f hf c41
                refine lv_aload_n X.1 X.2.1 dX9_readsParts_132 rfl (lv_at hl 3 rfl) ?_
                refine lv_iload_n X.1 X.2.1 dX9_readsParts_133 rfl (lv_at hl 4 rfl) ?_
                refine lv_iload_n X.1 X.2.1 dX9_readsParts_134 rfl (lv_at hl 0 rfl) ?_
                obtain ⟨r42, hc43, hf⟩ := bd1_e hf
                refine z_V (n := 2) (As := [.int n37_0, .int w38]) (rest := []) (ci := 9) (q0 := 0) X hK hN (kX9_byteAt l D K aM s34 _ n37_0 w38 r42 hc43) (bw_V W10_22 W10_23 W11_0 W1_5 W11_1) rfl ⟨rfl, rfl⟩ (by decide +kernel) rfl ⟨Nat.le_of_ble_eq_true rfl, Nat.le_of_ble_eq_true rfl⟩ hP hD rfl rfl (zj_same hD hS hA) hS hl.1 rfl (Nat.le_of_ble_eq_true rfl) dX9_readsParts_135 ⟨Nat.zero_le _, Nat.zero_le _⟩ rfl (fun H locs hP hD hS => ?_)
                refine lv_bipush (v := 59) X.1 X.2.1 dX9_readsParts_138 (by decide) ?_
                refine lv_icmp_eq (tgt := 145) X.1 X.2.1 dX9_readsParts_140 (by decide) (fun c44 => ?_) (fun c44 => ?_)
                · have hf := ite_t hf c44
                  obtain ⟨w45, ew45, hf⟩ := stp_e hf
                  refine lv_iinc (v := w45) (lv' := [(3, .int w45), (2, .int w37), (4, .int r33), (0, .ref (aM 0)), (1, .int n37_0)]) X.1 X.2.1 dX9_readsParts_145 hl (k := 0) rfl (by rw [ew45]; rfl) (by decide) rfl (fun ls hl => ?_)
                  refine lv_goto (tgt := 37) X.1 X.2.1 dX9_readsParts_148 (by decide) ?_
                  exact ih _ _ _ _ hf _ _ hP hD hS _ (lv_sub hl [3, 4, 1, 0] rfl)
                · have hf := ite_f hf c44
                  refine lv_iload_n X.1 X.2.1 dX9_readsParts_143 rfl (lv_at hl 0 rfl) ?_
                  obtain ⟨rfl, rfl⟩ := z_inj2 hf
                  exact z_iret X hr hlk hP hD hS dX9_readsParts_144
              · have hf := ite_t hf c41
                refine lv_aload_n X.1 X.2.1 dX9_readsParts_97 rfl (lv_at hl 3 rfl) ?_
                refine lv_iload_n X.1 X.2.1 dX9_readsParts_98 rfl (lv_at hl 4 rfl) ?_
                refine lv_if_ne (tgt := 106) X.1 X.2.1 dX9_readsParts_99 (by decide) (fun c46 => ?_) (fun c46 => ?_)
                · have hf := ite_f hf c46
                  refine lv_aload_n X.1 X.2.1 dX9_readsParts_106 rfl (lv_at hl 3 rfl) ?_
                  refine z_get X hK hP hiX9 0 rfl rfl 2 (by decide) (bw_in W10_12) rfl dX9_readsParts_107 ?_
                  obtain ⟨s47, es47, hf⟩ := stp_e hf
                  refine z_put (ws' := wbX9 K aM s47) X hK hP hD hS hiX9 tyX9_ok nmX9 0 rfl rfl 2 (by decide) (bw_in W10_12) rfl rfl rfl (Nat.le_of_ble_eq_true rfl) dX9_readsParts_110 (by rw [es47]; rfl) (fun H locs hP hD hS => ?_)
                  refine lv_aload_n X.1 X.2.1 dX9_readsParts_113 rfl (lv_at hl 3 rfl) ?_
                  refine lv_iload_n X.1 X.2.1 dX9_readsParts_114 rfl (lv_at hl 4 rfl) ?_
                  refine lv_iconst (v := 1) X.1 X.2.1 dX9_readsParts_115 (by decide) ?_
                  refine lv_icmp_ne (tgt := 123) X.1 X.2.1 dX9_readsParts_116 (by decide) (fun c48 => ?_) (fun c48 => ?_)
                  · have hf := ite_f hf c48
                    refine lv_aload_n X.1 X.2.1 dX9_readsParts_123 rfl (lv_at hl 3 rfl) ?_
                    refine z_get X hK hP hiX9 0 rfl rfl 6 (by decide) (bw_in W10_13) rfl dX9_readsParts_124 ?_
                    obtain ⟨s49, es49, hf⟩ := stp_e hf
                    refine z_put (ws' := wbX9 K aM s49) X hK hP hD hS hiX9 tyX9_ok nmX9 0 rfl rfl 6 (by decide) (bw_in W10_13) rfl rfl rfl (Nat.le_of_ble_eq_true rfl) dX9_readsParts_127 (by rw [es49]; rfl) (fun H locs hP hD hS => ?_)
                    refine lv_iconst (v := -1) X.1 X.2.1 dX9_readsParts_130 (by decide) ?_
                    obtain ⟨rfl, rfl⟩ := z_inj2 hf
                    exact z_iret X hr hlk hP hD hS dX9_readsParts_131
                  · have hf := ite_t hf c48
                    refine lv_iload_n X.1 X.2.1 dX9_readsParts_119 rfl (lv_at hl 1 rfl) ?_
                    refine lv_goto (tgt := 127) X.1 X.2.1 dX9_readsParts_120 (by decide) ?_
                    obtain ⟨s50, es50, hf⟩ := stp_e hf
                    refine z_put (ws' := wbX9 K aM s50) X hK hP hD hS hiX9 tyX9_ok nmX9 0 rfl rfl 6 (by decide) (bw_in W10_13) rfl rfl rfl (Nat.le_of_ble_eq_true rfl) dX9_readsParts_127 (by rw [es50]; rfl) (fun H locs hP hD hS => ?_)
                    refine lv_iconst (v := -1) X.1 X.2.1 dX9_readsParts_130 (by decide) ?_
                    obtain ⟨rfl, rfl⟩ := z_inj2 hf
                    exact z_iret X hr hlk hP hD hS dX9_readsParts_131
                · have hf := ite_t hf c46
                  refine lv_iload_n X.1 X.2.1 dX9_readsParts_102 rfl (lv_at hl 1 rfl) ?_
                  refine lv_goto (tgt := 110) X.1 X.2.1 dX9_readsParts_103 (by decide) ?_
                  obtain ⟨s51, es51, hf⟩ := stp_e hf
                  refine z_put (ws' := wbX9 K aM s51) X hK hP hD hS hiX9 tyX9_ok nmX9 0 rfl rfl 2 (by decide) (bw_in W10_12) rfl rfl rfl (Nat.le_of_ble_eq_true rfl) dX9_readsParts_110 (by rw [es51]; rfl) (fun H locs hP hD hS => ?_)
                  refine lv_aload_n X.1 X.2.1 dX9_readsParts_113 rfl (lv_at hl 3 rfl) ?_
                  refine lv_iload_n X.1 X.2.1 dX9_readsParts_114 rfl (lv_at hl 4 rfl) ?_
                  refine lv_iconst (v := 1) X.1 X.2.1 dX9_readsParts_115 (by decide) ?_
                  refine lv_icmp_ne (tgt := 123) X.1 X.2.1 dX9_readsParts_116 (by decide) (fun c52 => ?_) (fun c52 => ?_)
                  · have hf := ite_f hf c52
                    refine lv_aload_n X.1 X.2.1 dX9_readsParts_123 rfl (lv_at hl 3 rfl) ?_
                    refine z_get X hK hP hiX9 0 rfl rfl 6 (by decide) (bw_in W10_13) rfl dX9_readsParts_124 ?_
                    obtain ⟨s53, es53, hf⟩ := stp_e hf
                    refine z_put (ws' := wbX9 K aM s53) X hK hP hD hS hiX9 tyX9_ok nmX9 0 rfl rfl 6 (by decide) (bw_in W10_13) rfl rfl rfl (Nat.le_of_ble_eq_true rfl) dX9_readsParts_127 (by rw [es53]; rfl) (fun H locs hP hD hS => ?_)
                    refine lv_iconst (v := -1) X.1 X.2.1 dX9_readsParts_130 (by decide) ?_
                    obtain ⟨rfl, rfl⟩ := z_inj2 hf
                    exact z_iret X hr hlk hP hD hS dX9_readsParts_131
                  · have hf := ite_t hf c52
                    refine lv_iload_n X.1 X.2.1 dX9_readsParts_119 rfl (lv_at hl 1 rfl) ?_
                    refine lv_goto (tgt := 127) X.1 X.2.1 dX9_readsParts_120 (by decide) ?_
                    obtain ⟨s54, es54, hf⟩ := stp_e hf
                    refine z_put (ws' := wbX9 K aM s54) X hK hP hD hS hiX9 tyX9_ok nmX9 0 rfl rfl 6 (by decide) (bw_in W10_13) rfl rfl rfl (Nat.le_of_ble_eq_true rfl) dX9_readsParts_127 (by rw [es54]; rfl) (fun H locs hP hD hS => ?_)
                    refine lv_iconst (v := -1) X.1 X.2.1 dX9_readsParts_130 (by decide) ?_
                    obtain ⟨rfl, rfl⟩ := z_inj2 hf
                    exact z_iret X hr hlk hP hD hS dX9_readsParts_131
            · have hf := ite_f hf c36
              refine lv_iload_n X.1 X.2.1 dX9_readsParts_76 rfl (lv_at hl 4 rfl) ?_
              refine lv_iload X.1 X.2.1 dX9_readsParts_77 (lv_at hl 0 rfl) ?_
              refine lv_iadd X.1 X.2.1 dX9_readsParts_79 ?_
              obtain ⟨rfl, rfl⟩ := z_inj2 hf
              exact z_iret X hr hlk hP hD hS dX9_readsParts_80
          · have hf := ite_t hf c32
            refine lv_iconst (v := 0) X.1 X.2.1 dX9_readsParts_57 (by decide) ?_
            refine lv_goto (tgt := 68) X.1 X.2.1 dX9_readsParts_58 (by decide) ?_
            refine lv_istore (lv' := [(4, .int 0), (0, .ref (aM 0)), (1, .int n37_0), (2, .int n37_1), (3, .int n37_2)]) X.1 X.2.1 dX9_readsParts_68 hl (by decide) rfl (fun ls hl => ?_)
            refine lv_iload X.1 X.2.1 dX9_readsParts_70 (lv_at hl 0 rfl) ?_
            refine lv_iconst (v := 3) X.1 X.2.1 dX9_readsParts_72 (by decide) ?_
            refine lv_icmp_ge (tgt := 81) X.1 X.2.1 dX9_readsParts_73 (by decide) (fun c => absurd c (by decide)) (fun _ => ?_)
            refine lv_iload_n X.1 X.2.1 dX9_readsParts_76 rfl (lv_at hl 4 rfl) ?_
            refine lv_iload X.1 X.2.1 dX9_readsParts_77 (lv_at hl 0 rfl) ?_
            refine lv_iadd X.1 X.2.1 dX9_readsParts_79 ?_
            obtain ⟨rfl, rfl⟩ := z_inj2 hf
            exact z_iret X hr hlk hP hD hS dX9_readsParts_80
  rw [fX9_readsParts] at hf
  refine lv_iconst (v := 0) X.1 X.2.1 dX9_readsParts_0 (by decide) ?_
  refine lv_istore_n (lv' := [(2, .int 0), (0, .ref (aM 0)), (1, .int x1)]) X.1 X.2.1 dX9_readsParts_1 rfl hl (by decide) rfl (fun ls hl => ?_)
  refine lv_iconst (v := 0) X.1 X.2.1 dX9_readsParts_2 (by decide) ?_
  refine lv_istore_n (lv' := [(3, .int 0), (2, .int 0), (0, .ref (aM 0)), (1, .int x1)]) X.1 X.2.1 dX9_readsParts_3 rfl hl (by decide) rfl (fun ls hl => ?_)
  refine lv_aload_n X.1 X.2.1 dX9_readsParts_4 rfl (lv_at hl 2 rfl) ?_
  refine lv_iload_n X.1 X.2.1 dX9_readsParts_5 rfl (lv_at hl 3 rfl) ?_
  refine lv_if_ne (tgt := 13) X.1 X.2.1 dX9_readsParts_6 (by decide) (fun c1 => ?_) (fun c1 => ?_)
  · have hf := ite_f hf c1
    refine lv_aload_n X.1 X.2.1 dX9_readsParts_13 rfl (lv_at hl 2 rfl) ?_
    refine z_get X hK hP hiX9 0 rfl rfl 2 (by decide) (bw_in W10_12) rfl dX9_readsParts_14 ?_
    obtain ⟨s2, es2, hf⟩ := stp_e hf
    refine z_put (ws' := wbX9 K aM s2) X hK hP hD hS hiX9 tyX9_ok nmX9 0 rfl rfl 2 (by decide) (bw_in W10_12) rfl rfl rfl (Nat.le_of_ble_eq_true rfl) dX9_readsParts_17 (by rw [es2]; rfl) (fun H locs hP hD hS => ?_)
    refine lv_aload_n X.1 X.2.1 dX9_readsParts_20 rfl (lv_at hl 2 rfl) ?_
    refine lv_iload_n X.1 X.2.1 dX9_readsParts_21 rfl (lv_at hl 3 rfl) ?_
    refine lv_iconst (v := 1) X.1 X.2.1 dX9_readsParts_22 (by decide) ?_
    refine lv_icmp_ne (tgt := 30) X.1 X.2.1 dX9_readsParts_23 (by decide) (fun c3 => ?_) (fun c3 => ?_)
    · have hf := ite_f hf c3
      refine lv_aload_n X.1 X.2.1 dX9_readsParts_30 rfl (lv_at hl 2 rfl) ?_
      refine z_get X hK hP hiX9 0 rfl rfl 6 (by decide) (bw_in W10_13) rfl dX9_readsParts_31 ?_
      obtain ⟨s4, es4, hf⟩ := stp_e hf
      refine z_put (ws' := wbX9 K aM s4) X hK hP hD hS hiX9 tyX9_ok nmX9 0 rfl rfl 6 (by decide) (bw_in W10_13) rfl rfl rfl (Nat.le_of_ble_eq_true rfl) dX9_readsParts_34 (by rw [es4]; rfl) (fun H locs hP hD hS => ?_)
      exact L37_0  _ _ _ _ _ hf _ _ hP hD hS _ (lv_sub hl [2, 3, 1, 0] rfl)
    · have hf := ite_t hf c3
      refine lv_iconst (v := 0) X.1 X.2.1 dX9_readsParts_26 (by decide) ?_
      refine lv_goto (tgt := 34) X.1 X.2.1 dX9_readsParts_27 (by decide) ?_
      obtain ⟨s55, es55, hf⟩ := stp_e hf
      refine z_put (ws' := wbX9 K aM s55) X hK hP hD hS hiX9 tyX9_ok nmX9 0 rfl rfl 6 (by decide) (bw_in W10_13) rfl rfl rfl (Nat.le_of_ble_eq_true rfl) dX9_readsParts_34 (by rw [es55]; rfl) (fun H locs hP hD hS => ?_)
      exact L37_0  _ _ _ _ _ hf _ _ hP hD hS _ (lv_sub hl [2, 3, 1, 0] rfl)
  · have hf := ite_t hf c1
    refine lv_iconst (v := 0) X.1 X.2.1 dX9_readsParts_9 (by decide) ?_
    refine lv_goto (tgt := 17) X.1 X.2.1 dX9_readsParts_10 (by decide) ?_
    obtain ⟨s56, es56, hf⟩ := stp_e hf
    refine z_put (ws' := wbX9 K aM s56) X hK hP hD hS hiX9 tyX9_ok nmX9 0 rfl rfl 2 (by decide) (bw_in W10_12) rfl rfl rfl (Nat.le_of_ble_eq_true rfl) dX9_readsParts_17 (by rw [es56]; rfl) (fun H locs hP hD hS => ?_)
    refine lv_aload_n X.1 X.2.1 dX9_readsParts_20 rfl (lv_at hl 2 rfl) ?_
    refine lv_iload_n X.1 X.2.1 dX9_readsParts_21 rfl (lv_at hl 3 rfl) ?_
    refine lv_iconst (v := 1) X.1 X.2.1 dX9_readsParts_22 (by decide) ?_
    refine lv_icmp_ne (tgt := 30) X.1 X.2.1 dX9_readsParts_23 (by decide) (fun c57 => ?_) (fun c57 => ?_)
    · have hf := ite_f hf c57
      refine lv_aload_n X.1 X.2.1 dX9_readsParts_30 rfl (lv_at hl 2 rfl) ?_
      refine z_get X hK hP hiX9 0 rfl rfl 6 (by decide) (bw_in W10_13) rfl dX9_readsParts_31 ?_
      obtain ⟨s58, es58, hf⟩ := stp_e hf
      refine z_put (ws' := wbX9 K aM s58) X hK hP hD hS hiX9 tyX9_ok nmX9 0 rfl rfl 6 (by decide) (bw_in W10_13) rfl rfl rfl (Nat.le_of_ble_eq_true rfl) dX9_readsParts_34 (by rw [es58]; rfl) (fun H locs hP hD hS => ?_)
      exact L37_0  _ _ _ _ _ hf _ _ hP hD hS _ (lv_sub hl [2, 3, 1, 0] rfl)
    · have hf := ite_t hf c57
      refine lv_iconst (v := 0) X.1 X.2.1 dX9_readsParts_26 (by decide) ?_
      refine lv_goto (tgt := 34) X.1 X.2.1 dX9_readsParts_27 (by decide) ?_
      obtain ⟨s59, es59, hf⟩ := stp_e hf
      refine z_put (ws' := wbX9 K aM s59) X hK hP hD hS hiX9 tyX9_ok nmX9 0 rfl rfl 6 (by decide) (bw_in W10_13) rfl rfl rfl (Nat.le_of_ble_eq_true rfl) dX9_readsParts_34 (by rw [es59]; rfl) (fun H locs hP hD hS => ?_)
      exact L37_0  _ _ _ _ _ hf _ _ hP hD hS _ (lv_sub hl [2, 3, 1, 0] rfl)
abbrev rmX9_readsStops : Room := { frames := 2, cells := 0, slots := 0, locals := 47 }
set_option maxHeartbeats 4000000 in
set_option maxRecDepth 100000 in
theorem kX9_readsStops (l : Launch) (D : va_G) (K : Nat → ClassId) (aM : Nat → Nat) (s0 : St) (sz : Nat)  (q_ : Int32) (s_ : St) (hf : fX9_readsStops s0 = some (q_, s_)) : Met l yX9_readsStops (bw (Cond.code yX9_readsStops cX9_readsStops 3 (some .int))) rmX9_readsStops (va_Pc [.ref (aM 0)] (zB D K sz (wbX9 K aM s0))) (zQ (some (.int q_)) D (va_A (wbX9 K aM s0) sz) (wbX9 K aM s_)) 0 0 (va_A (wbX9 K aM s0) sz) := by
  refine z_of (cc := cX9_readsStops) (maxL := 3) (ret := (some .int)) (own := RX9) (lv := [(0, .ref (aM 0))]) (by decide) rfl rfl (Nat.le_of_ble_eq_true rfl) rfl ?_
  intro p e s m below meth c X hr hlk hK hN hsz hP hD hA hS hin ls hl
  generalize va_A (wbX9 K aM s0) sz = A at hD hA hS hN ⊢
  have hiX9 : ∀ w ∈ u_ws RX9 TX9 44, w ∈ (bw (Cond.code yX9_readsStops cX9_readsStops 3 (some .int))) := fun w h => bw_in (inlX9 w h)
  have L7_0 : ∀ (n : Nat), ∀ (n7_0 : Int32) (q7_M : St), fX9_readsStops_7 n n7_0 q7_M = some ((q_, s_)) → ∀ (H : Heap) (locs : List Loc), va_P D vwCl (wbX9 K aM q7_M) H → va_D A (wbX9 K aM q7_M) → va_S A s.heap H locs → ∀ (ls : Array Slot), lv_has ls 3 [(0, .ref (aM 0)), (1, .int n7_0)] → W p l e rmX9_readsStops s m ([.ref (aM 0)] : List Value).toArray below meth c H locs 0 0 (MQ below (zQ (some (.int q_)) D A (wbX9 K aM s_)) ([.ref (aM 0)] : List Value).toArray s 0 0 A) (F0 m 7 ls []) := by
    intro n
    induction n with
    | zero =>
      intro n7_0 q7_M hf
      rw [fX9_readsStops_7] at hf
      cases hf
    | succ n ih =>
      intro n7_0 q7_M hf H locs hP hD hS ls hl
      rw [fX9_readsStops_7] at hf
      refine lv_iload_n X.1 X.2.1 dX9_readsStops_7 rfl (lv_at hl 1 rfl) ?_
      refine lv_aload_n X.1 X.2.1 dX9_readsStops_8 rfl (lv_at hl 0 rfl) ?_
      refine z_get X hK hP hiX9 0 rfl rfl 0 (by decide) (bw_in W6_16) rfl dX9_readsStops_9 ?_
      refine lv_iconst (v := 2) X.1 X.2.1 dX9_readsStops_12 (by decide) ?_
      obtain ⟨hi3, hf⟩ := chk_e hf
      obtain ⟨v2, ev2, hf⟩ := stp_e hf
      refine z_iald X hK hP 1 rfl hi3 ev2 dX9_readsStops_13 ?_
      refine lv_icmp_ge (tgt := 47) X.1 X.2.1 dX9_readsStops_14 (by decide) (fun c4 => ?_) (fun c4 => ?_)
      · have hf := ite_t hf c4
        refine lv_aload_n X.1 X.2.1 dX9_readsStops_47 rfl (lv_at hl 0 rfl) ?_
        refine lv_aload_n X.1 X.2.1 dX9_readsStops_48 rfl (lv_at hl 0 rfl) ?_
        refine z_get X hK hP hiX9 0 rfl rfl 0 (by decide) (bw_in W6_16) rfl dX9_readsStops_49 ?_
        refine lv_iconst (v := 2) X.1 X.2.1 dX9_readsStops_52 (by decide) ?_
        obtain ⟨hi6, hf⟩ := chk_e hf
        obtain ⟨v5, ev5, hf⟩ := stp_e hf
        refine z_iald X hK hP 1 rfl hi6 ev5 dX9_readsStops_53 ?_
        obtain ⟨s7, es7, hf⟩ := stp_e hf
        refine z_put (ws' := wbX9 K aM s7) X hK hP hD hS hiX9 tyX9_ok nmX9 0 rfl rfl 9 (by decide) (bw_in W11_6) rfl rfl rfl (Nat.le_of_ble_eq_true rfl) dX9_readsStops_54 (by rw [es7]; rfl) (fun H locs hP hD hS => ?_)
        refine lv_iconst (v := -1) X.1 X.2.1 dX9_readsStops_57 (by decide) ?_
        obtain ⟨rfl, rfl⟩ := z_inj2 hf
        exact z_iret X hr hlk hP hD hS dX9_readsStops_58
      · have hf := ite_f hf c4
        refine lv_aload_n X.1 X.2.1 dX9_readsStops_17 rfl (lv_at hl 0 rfl) ?_
        refine lv_iconst (v := 2) X.1 X.2.1 dX9_readsStops_18 (by decide) ?_
        refine lv_iload_n X.1 X.2.1 dX9_readsStops_19 rfl (lv_at hl 1 rfl) ?_
        refine lv_iconst (v := 0) X.1 X.2.1 dX9_readsStops_20 (by decide) ?_
        refine lv_bipush (v := 9) X.1 X.2.1 dX9_readsStops_21 (by decide) ?_
        obtain ⟨r8, hc9, hf⟩ := bd1_e hf
        refine z_V (n := 4) (As := [.int 2, .int n7_0, .int 0, .int 9]) (rest := []) (ci := 9) (q0 := 0) X hK hN (kX9_figureAt l D K aM q7_M _ 2 n7_0 0 9 r8 hc9) (bw_V W10_18 W10_19 W10_20 W1_5 W10_21) rfl ⟨rfl, rfl⟩ (by decide +kernel) rfl ⟨Nat.le_of_ble_eq_true rfl, Nat.le_of_ble_eq_true rfl⟩ hP hD rfl rfl (zj_same hD hS hA) hS hl.1 rfl (Nat.le_of_ble_eq_true rfl) dX9_readsStops_23 ⟨Nat.zero_le _, Nat.zero_le _⟩ rfl (fun H locs hP hD hS => ?_)
        refine lv_istore_n (lv' := [(2, .int r8), (0, .ref (aM 0)), (1, .int n7_0)]) X.1 X.2.1 dX9_readsStops_26 rfl hl (by decide) rfl (fun ls hl => ?_)
        refine lv_iload_n X.1 X.2.1 dX9_readsStops_27 rfl (lv_at hl 0 rfl) ?_
        refine lv_iconst (v := -1) X.1 X.2.1 dX9_readsStops_28 (by decide) ?_
        refine lv_icmp_ne (tgt := 34) X.1 X.2.1 dX9_readsStops_29 (by decide) (fun c10 => ?_) (fun c10 => ?_)
        · have hf := ite_f hf c10
          refine lv_aload_n X.1 X.2.1 dX9_readsStops_34 rfl (lv_at hl 1 rfl) ?_
          refine z_get X hK hP hiX9 0 rfl rfl 10 (by decide) (bw_in W6_23) rfl dX9_readsStops_35 ?_
          refine lv_iload_n X.1 X.2.1 dX9_readsStops_38 rfl (lv_at hl 2 rfl) ?_
          refine lv_iload_n X.1 X.2.1 dX9_readsStops_39 rfl (lv_at hl 0 rfl) ?_
          obtain ⟨hi11, hf⟩ := chk_e hf
          obtain ⟨s12, es12, hf⟩ := stp_e hf
          refine z_iast (ws' := wbX9 K aM s12) X hK hP hD hS 8 rfl hi11 dX9_readsStops_40 (by rw [es12]; rfl) (fun H locs hP hD hS => ?_)
          obtain ⟨w13, ew13, hf⟩ := stp_e hf
          refine lv_iinc (v := w13) (lv' := [(1, .int w13), (2, .int r8), (0, .ref (aM 0))]) X.1 X.2.1 dX9_readsStops_41 hl (k := 2) rfl (by rw [ew13]; rfl) (by decide) rfl (fun ls hl => ?_)
          refine lv_goto (tgt := 7) X.1 X.2.1 dX9_readsStops_44 (by decide) ?_
          exact ih _ _ hf _ _ hP hD hS _ (lv_sub hl [2, 0] rfl)
        · have hf := ite_t hf c10
          refine lv_iload_n X.1 X.2.1 dX9_readsStops_32 rfl (lv_at hl 2 rfl) ?_
          obtain ⟨rfl, rfl⟩ := z_inj2 hf
          exact z_iret X hr hlk hP hD hS dX9_readsStops_33
  rw [fX9_readsStops] at hf
  refine lv_aload_n X.1 X.2.1 dX9_readsStops_0 rfl (lv_at hl 0 rfl) ?_
  refine lv_iconst (v := 0) X.1 X.2.1 dX9_readsStops_1 (by decide) ?_
  obtain ⟨s1, es1, hf⟩ := stp_e hf
  refine z_put (ws' := wbX9 K aM s1) X hK hP hD hS hiX9 tyX9_ok nmX9 0 rfl rfl 9 (by decide) (bw_in W11_6) rfl rfl rfl (Nat.le_of_ble_eq_true rfl) dX9_readsStops_2 (by rw [es1]; rfl) (fun H locs hP hD hS => ?_)
  refine lv_iconst (v := 0) X.1 X.2.1 dX9_readsStops_5 (by decide) ?_
  refine lv_istore_n (lv' := [(1, .int 0), (0, .ref (aM 0))]) X.1 X.2.1 dX9_readsStops_6 rfl hl (by decide) rfl (fun ls hl => ?_)
  exact L7_0  _ _ _ hf _ _ hP hD hS _ (lv_sub hl [1, 0] rfl)
abbrev rmX9_faultOf : Room := { frames := 4, cells := 0, slots := 0, locals := 97 }
set_option maxHeartbeats 4000000 in
set_option maxRecDepth 100000 in
theorem kX9_faultOf (l : Launch) (D : va_G) (K : Nat → ClassId) (aM : Nat → Nat) (s0 : St) (sz : Nat) (x1 : Int32) (q_ : Int32) (s_ : St) (hf : fX9_faultOf s0 x1 = some (q_, s_)) : Met l yX9_faultOf (bw (Cond.code yX9_faultOf cX9_faultOf 5 (some .int))) rmX9_faultOf (va_Pc [.ref (aM 0), .int x1] (zB D K sz (wbX9 K aM s0))) (zQ (some (.int q_)) D (va_A (wbX9 K aM s0) sz) (wbX9 K aM s_)) 0 0 (va_A (wbX9 K aM s0) sz) := by
  refine z_of (cc := cX9_faultOf) (maxL := 5) (ret := (some .int)) (own := RX9) (lv := [(0, .ref (aM 0)), (1, .int x1)]) (by decide) rfl rfl (Nat.le_of_ble_eq_true rfl) rfl ?_
  intro p e s m below meth c X hr hlk hK hN hsz hP hD hA hS hin ls hl
  generalize va_A (wbX9 K aM s0) sz = A at hD hA hS hN ⊢
  rw [fX9_faultOf] at hf
  refine lv_aload_n X.1 X.2.1 dX9_faultOf_0 rfl (lv_at hl 0 rfl) ?_
  refine lv_iconst (v := 0) X.1 X.2.1 dX9_faultOf_1 (by decide) ?_
  obtain ⟨r1, s2, hc3, hf⟩ := bd2_e hf
  refine z_V (n := 1) (As := [.int 0]) (rest := []) (ci := 9) (q0 := 0) X hK hN (kX9_readsParts l D K aM s0 _ 0 r1 s2 hc3) (bw_V W10_8 W10_9 W10_10 W1_5 W10_11) rfl ⟨rfl, rfl⟩ (by decide +kernel) rfl ⟨Nat.le_of_ble_eq_true rfl, Nat.le_of_ble_eq_true rfl⟩ hP hD rfl rfl (zj_same hD hS hA) hS hl.1 rfl (Nat.le_of_ble_eq_true rfl) dX9_faultOf_2 ⟨Nat.zero_le _, Nat.zero_le _⟩ rfl (fun H locs hP hD hS => ?_)
  refine lv_istore_n (lv' := [(2, .int r1), (0, .ref (aM 0)), (1, .int x1)]) X.1 X.2.1 dX9_faultOf_5 rfl hl (by decide) rfl (fun ls hl => ?_)
  refine lv_aload_n X.1 X.2.1 dX9_faultOf_6 rfl (lv_at hl 1 rfl) ?_
  refine lv_iconst (v := 1) X.1 X.2.1 dX9_faultOf_7 (by decide) ?_
  obtain ⟨r4, s5, hc6, hf⟩ := bd2_e hf
  refine z_V (n := 1) (As := [.int 1]) (rest := []) (ci := 9) (q0 := 0) X hK hN (kX9_readsParts l D K aM s2 _ 1 r4 s5 hc6) (bw_V W10_8 W10_9 W10_10 W1_5 W10_11) rfl ⟨rfl, rfl⟩ (by decide +kernel) rfl ⟨Nat.le_of_ble_eq_true rfl, Nat.le_of_ble_eq_true rfl⟩ hP hD rfl rfl (zj_same hD hS hA) hS hl.1 rfl (Nat.le_of_ble_eq_true rfl) dX9_faultOf_8 ⟨Nat.zero_le _, Nat.zero_le _⟩ rfl (fun H locs hP hD hS => ?_)
  refine lv_istore_n (lv' := [(3, .int r4), (2, .int r1), (0, .ref (aM 0)), (1, .int x1)]) X.1 X.2.1 dX9_faultOf_11 rfl hl (by decide) rfl (fun ls hl => ?_)
  refine lv_aload_n X.1 X.2.1 dX9_faultOf_12 rfl (lv_at hl 2 rfl) ?_
  obtain ⟨r7, s8, hc9, hf⟩ := bd2_e hf
  refine z_V (n := 0) (As := []) (rest := []) (ci := 9) (q0 := 0) X hK hN (kX9_readsStops l D K aM s5 _ r7 s8 hc9) (bw_V W11_2 W11_3 W11_4 W1_5 W11_5) rfl ⟨rfl, rfl⟩ (by decide +kernel) rfl ⟨Nat.le_of_ble_eq_true rfl, Nat.le_of_ble_eq_true rfl⟩ hP hD rfl rfl (zj_same hD hS hA) hS hl.1 rfl (Nat.le_of_ble_eq_true rfl) dX9_faultOf_13 ⟨Nat.zero_le _, Nat.zero_le _⟩ rfl (fun H locs hP hD hS => ?_)
  refine lv_istore (lv' := [(4, .int r7), (3, .int r4), (2, .int r1), (0, .ref (aM 0)), (1, .int x1)]) X.1 X.2.1 dX9_faultOf_16 hl (by decide) rfl (fun ls hl => ?_)
  refine lv_iload_n X.1 X.2.1 dX9_faultOf_18 rfl (lv_at hl 4 rfl) ?_
  refine lv_if_ne (tgt := 26) X.1 X.2.1 dX9_faultOf_19 (by decide) (fun c10 => ?_) (fun c10 => ?_)
  · have hf := ite_f hf c10
    refine lv_iload_n X.1 X.2.1 dX9_faultOf_26 rfl (lv_at hl 4 rfl) ?_
    refine lv_iconst (v := 1) X.1 X.2.1 dX9_faultOf_27 (by decide) ?_
    refine lv_icmp_ne (tgt := 35) X.1 X.2.1 dX9_faultOf_28 (by decide) (fun c11 => ?_) (fun c11 => ?_)
    · have hf := ite_f hf c11
      refine lv_iload X.1 X.2.1 dX9_faultOf_35 (lv_at hl 0 rfl) ?_
      obtain ⟨rfl, rfl⟩ := z_inj2 hf
      exact z_iret X hr hlk hP hD hS dX9_faultOf_37
    · have hf := ite_t hf c11
      refine lv_iload_n X.1 X.2.1 dX9_faultOf_31 rfl (lv_at hl 1 rfl) ?_
      refine lv_goto (tgt := 37) X.1 X.2.1 dX9_faultOf_32 (by decide) ?_
      obtain ⟨rfl, rfl⟩ := z_inj2 hf
      exact z_iret X hr hlk hP hD hS dX9_faultOf_37
  · have hf := ite_t hf c10
    refine lv_iload_n X.1 X.2.1 dX9_faultOf_22 rfl (lv_at hl 2 rfl) ?_
    refine lv_goto (tgt := 37) X.1 X.2.1 dX9_faultOf_23 (by decide) ?_
    obtain ⟨rfl, rfl⟩ := z_inj2 hf
    exact z_iret X hr hlk hP hD hS dX9_faultOf_37
abbrev rmX9_reads : Room := { frames := 5, cells := 0, slots := 0, locals := 121 }
set_option maxHeartbeats 4000000 in
set_option maxRecDepth 100000 in
theorem kX9_reads (l : Launch) (D : va_G) (K : Nat → ClassId) (aM : Nat → Nat) (s0 : St) (sz : Nat)  (s_ : St) (hf : fX9_reads s0 = some s_) : Met l yX9_reads (bw (Cond.code yX9_reads cX9_reads 2 none)) rmX9_reads (va_Pc [.ref (aM 0)] (zB D K sz (wbX9 K aM s0))) (zQ (none) D (va_A (wbX9 K aM s0) sz) (wbX9 K aM s_)) 0 0 (va_A (wbX9 K aM s0) sz) := by
  refine z_of (cc := cX9_reads) (maxL := 2) (ret := none) (own := RX9) (lv := [(0, .ref (aM 0))]) (by decide) rfl rfl (Nat.le_of_ble_eq_true rfl) rfl ?_
  intro p e s m below meth c X hr hlk hK hN hsz hP hD hA hS hin ls hl
  generalize va_A (wbX9 K aM s0) sz = A at hD hA hS hN ⊢
  rw [fX9_reads] at hf
  refine lv_aload_n X.1 X.2.1 dX9_reads_0 rfl (lv_at hl 0 rfl) ?_
  refine lv_iconst (v := 0) X.1 X.2.1 dX9_reads_1 (by decide) ?_
  obtain ⟨r1, s2, hc3, hf⟩ := bd2_e hf
  refine z_V (n := 1) (As := [.int 0]) (rest := []) (ci := 9) (q0 := 0) X hK hN (kX9_faultOf l D K aM s0 _ 0 r1 s2 hc3) (bw_V W10_4 W10_5 W10_6 W1_5 W10_7) rfl ⟨rfl, rfl⟩ (by decide +kernel) rfl ⟨Nat.le_of_ble_eq_true rfl, Nat.le_of_ble_eq_true rfl⟩ hP hD rfl rfl (zj_same hD hS hA) hS hl.1 rfl (Nat.le_of_ble_eq_true rfl) dX9_reads_2 ⟨Nat.zero_le _, Nat.zero_le _⟩ rfl (fun H locs hP hD hS => ?_)
  refine lv_istore_n (lv' := [(1, .int r1), (0, .ref (aM 0))]) X.1 X.2.1 dX9_reads_5 rfl hl (by decide) rfl (fun ls hl => ?_)
  obtain rfl := z_inj1 hf
  exact z_vret X hr hlk hP hD hS dX9_reads_6
abbrev rmX9_asTold : Room := { frames := 6, cells := 0, slots := 0, locals := 142 }
set_option maxHeartbeats 4000000 in
set_option maxRecDepth 100000 in
theorem kX9_asTold (l : Launch) (D : va_G) (K : Nat → ClassId) (aM : Nat → Nat) (s0 : St) (sz : Nat)  (s_ : St) (hf : fX9_asTold s0 = some s_) : Met l yX9_asTold (bw (Cond.code yX9_asTold cX9_asTold 2 none)) rmX9_asTold (va_Pc [.ref (aM 0)] (zB D K sz (wbX9 K aM s0))) (zQ (none) D (va_A (wbX9 K aM s0) sz) (wbX9 K aM s_)) 0 0 (va_A (wbX9 K aM s0) sz) := by
  refine z_of (cc := cX9_asTold) (maxL := 2) (ret := none) (own := RX9) (lv := [(0, .ref (aM 0))]) (by decide) rfl rfl (Nat.le_of_ble_eq_true rfl) rfl ?_
  intro p e s m below meth c X hr hlk hK hN hsz hP hD hA hS hin ls hl
  generalize va_A (wbX9 K aM s0) sz = A at hD hA hS hN ⊢
  have hiX9 : ∀ w ∈ u_ws RX9 TX9 44, w ∈ (bw (Cond.code yX9_asTold cX9_asTold 2 none)) := fun w h => bw_in (inlX9 w h)
  have L14_0 : ∀ (n : Nat), ∀ (n14_0 : Int32) (q14_M : St), fX9_asTold_14 n n14_0 q14_M = some s_ → ∀ (H : Heap) (locs : List Loc), va_P D vwCl (wbX9 K aM q14_M) H → va_D A (wbX9 K aM q14_M) → va_S A s.heap H locs → ∀ (ls : Array Slot), lv_has ls 2 [(0, .ref (aM 0)), (1, .int n14_0)] → W p l e rmX9_asTold s m ([.ref (aM 0)] : List Value).toArray below meth c H locs 0 0 (MQ below (zQ (none) D A (wbX9 K aM s_)) ([.ref (aM 0)] : List Value).toArray s 0 0 A) (F0 m 14 ls []) := by
    intro n
    induction n with
    | zero =>
      intro n14_0 q14_M hf
      rw [fX9_asTold_14] at hf
      cases hf
    | succ n ih =>
      intro n14_0 q14_M hf H locs hP hD hS ls hl
      rw [fX9_asTold_14] at hf
      refine lv_iload_n X.1 X.2.1 dX9_asTold_14 rfl (lv_at hl 1 rfl) ?_
      refine lv_aload_n X.1 X.2.1 dX9_asTold_15 rfl (lv_at hl 0 rfl) ?_
      refine z_get X hK hP hiX9 0 rfl rfl 9 (by decide) (bw_in W11_6) rfl dX9_asTold_16 ?_
      refine lv_icmp_ge (tgt := 40) X.1 X.2.1 dX9_asTold_19 (by decide) (fun c4 => ?_) (fun c4 => ?_)
      · have hf := ite_t hf c4
        refine lv_aload_n X.1 X.2.1 dX9_asTold_40 rfl (lv_at hl 0 rfl) ?_
        refine lv_sipush (v := 255) X.1 X.2.1 dX9_asTold_41 (by decide) ?_
        obtain ⟨s5, es5, hf⟩ := stp_e hf
        refine z_put (ws' := wbX9 K aM s5) X hK hP hD hS hiX9 tyX9_ok nmX9 0 rfl rfl 15 (by decide) (bw_in W20_8) rfl rfl rfl (Nat.le_of_ble_eq_true rfl) dX9_asTold_44 (by rw [es5]; rfl) (fun H locs hP hD hS => ?_)
        obtain rfl := z_inj1 hf
        exact z_vret X hr hlk hP hD hS dX9_asTold_47
      · have hf := ite_f hf c4
        refine lv_aload_n X.1 X.2.1 dX9_asTold_22 rfl (lv_at hl 0 rfl) ?_
        refine z_get X hK hP hiX9 0 rfl rfl 14 (by decide) (bw_in W7_0) rfl dX9_asTold_23 ?_
        refine lv_iload_n X.1 X.2.1 dX9_asTold_26 rfl (lv_at hl 1 rfl) ?_
        refine lv_aload_n X.1 X.2.1 dX9_asTold_27 rfl (lv_at hl 0 rfl) ?_
        refine z_get X hK hP hiX9 0 rfl rfl 10 (by decide) (bw_in W6_23) rfl dX9_asTold_28 ?_
        refine lv_iload_n X.1 X.2.1 dX9_asTold_31 rfl (lv_at hl 1 rfl) ?_
        obtain ⟨hi7, hf⟩ := chk_e hf
        obtain ⟨v6, ev6, hf⟩ := stp_e hf
        refine z_iald X hK hP 8 rfl hi7 ev6 dX9_asTold_32 ?_
        obtain ⟨hi8, hf⟩ := chk_e hf
        obtain ⟨s9, es9, hf⟩ := stp_e hf
        refine z_iast (ws' := wbX9 K aM s9) X hK hP hD hS 9 rfl hi8 dX9_asTold_33 (by rw [es9]; rfl) (fun H locs hP hD hS => ?_)
        obtain ⟨w10, ew10, hf⟩ := stp_e hf
        refine lv_iinc (v := w10) (lv' := [(1, .int w10), (0, .ref (aM 0))]) X.1 X.2.1 dX9_asTold_34 hl (k := 1) rfl (by rw [ew10]; rfl) (by decide) rfl (fun ls hl => ?_)
        refine lv_goto (tgt := 14) X.1 X.2.1 dX9_asTold_37 (by decide) ?_
        exact ih _ _ hf _ _ hP hD hS _ (lv_sub hl [1, 0] rfl)
  rw [fX9_asTold] at hf
  refine lv_aload_n X.1 X.2.1 dX9_asTold_0 rfl (lv_at hl 0 rfl) ?_
  obtain ⟨s1, hc2, hf⟩ := bd1_e hf
  refine z_V (n := 0) (As := []) (rest := []) (ci := 9) (q0 := 0) X hK hN (kX9_reads l D K aM s0 _ s1 hc2) (bw_V W16_13 W16_14 W16_15 W1_5 W16_16) rfl ⟨rfl, rfl⟩ (by decide +kernel) rfl ⟨Nat.le_of_ble_eq_true rfl, Nat.le_of_ble_eq_true rfl⟩ hP hD rfl rfl (zj_same hD hS hA) hS hl.1 rfl (Nat.le_of_ble_eq_true rfl) dX9_asTold_1 ⟨Nat.zero_le _, Nat.zero_le _⟩ rfl (fun H locs hP hD hS => ?_)
  refine lv_aload_n X.1 X.2.1 dX9_asTold_4 rfl (lv_at hl 0 rfl) ?_
  refine lv_aload_n X.1 X.2.1 dX9_asTold_5 rfl (lv_at hl 0 rfl) ?_
  refine z_get X hK hP hiX9 0 rfl rfl 9 (by decide) (bw_in W11_6) rfl dX9_asTold_6 ?_
  obtain ⟨s3, es3, hf⟩ := stp_e hf
  refine z_put (ws' := wbX9 K aM s3) X hK hP hD hS hiX9 tyX9_ok nmX9 0 rfl rfl 13 (by decide) (bw_in W20_7) rfl rfl rfl (Nat.le_of_ble_eq_true rfl) dX9_asTold_9 (by rw [es3]; rfl) (fun H locs hP hD hS => ?_)
  refine lv_iconst (v := 0) X.1 X.2.1 dX9_asTold_12 (by decide) ?_
  refine lv_istore_n (lv' := [(1, .int 0), (0, .ref (aM 0))]) X.1 X.2.1 dX9_asTold_13 rfl hl (by decide) rfl (fun ls hl => ?_)
  exact L14_0  _ _ _ hf _ _ hP hD hS _ (lv_sub hl [1, 0] rfl)
abbrev rmX9_isIn : Room := { frames := 0, cells := 0, slots := 0, locals := 0 }
set_option maxHeartbeats 4000000 in
set_option maxRecDepth 100000 in
theorem kX9_isIn (l : Launch) (D : va_G) (K : Nat → ClassId)   (sz : Nat) (x1 : Int32) (x2 : Int32) (q_ : Int32) (hf : fX9_isIn x1 x2 = some q_) : Met l yX9_isIn (bw (Cond.code yX9_isIn cX9_isIn 2 (some .boolean))) rmX9_isIn (va_Pc [.int x1, .int x2] (zB D K sz (([] : va_W)))) (zQ (some (.int q_)) D (va_A (([] : va_W)) sz) (([] : va_W))) 0 0 (va_A (([] : va_W)) sz) := by
  refine z_of (cc := cX9_isIn) (maxL := 2) (ret := (some .boolean)) (own := RX9) (lv := [(0, .int x1), (1, .int x2)]) (by decide) rfl rfl (Nat.le_of_ble_eq_true rfl) rfl ?_
  intro p e s m below meth c X hr hlk hK hN hsz hP hD hA hS hin ls hl
  generalize va_A (([] : va_W)) sz = A at hD hA hS hN ⊢
  rw [fX9_isIn] at hf
  refine lv_iload_n X.1 X.2.1 dX9_isIn_0 rfl (lv_at hl 0 rfl) ?_
  refine lv_iload_n X.1 X.2.1 dX9_isIn_1 rfl (lv_at hl 1 rfl) ?_
  refine lv_ishr X.1 X.2.1 dX9_isIn_2 ?_
  refine lv_iconst (v := 1) X.1 X.2.1 dX9_isIn_3 (by decide) ?_
  refine lv_iand X.1 X.2.1 dX9_isIn_4 ?_
  refine lv_iconst (v := 1) X.1 X.2.1 dX9_isIn_5 (by decide) ?_
  refine lv_icmp_ne (tgt := 13) X.1 X.2.1 dX9_isIn_6 (by decide) (fun c1 => ?_) (fun c1 => ?_)
  · have hf := ite_f hf c1
    refine lv_iconst (v := 0) X.1 X.2.1 dX9_isIn_13 (by decide) ?_
    obtain rfl := z_inj1 hf
    exact z_zret X hr hlk (by decide) hP hD hS dX9_isIn_14
  · have hf := ite_t hf c1
    refine lv_iconst (v := 1) X.1 X.2.1 dX9_isIn_9 (by decide) ?_
    refine lv_goto (tgt := 14) X.1 X.2.1 dX9_isIn_10 (by decide) ?_
    obtain rfl := z_inj1 hf
    exact z_zret X hr hlk (by decide) hP hD hS dX9_isIn_14
abbrev rmX9_load : Room := { frames := 1, cells := 0, slots := 0, locals := 21 }
set_option maxHeartbeats 4000000 in
set_option maxRecDepth 100000 in
theorem kX9_load (l : Launch) (D : va_G) (K : Nat → ClassId) (aM : Nat → Nat) (s0 : St) (sz : Nat)  (q_ : Int32) (hf : fX9_load s0 = some q_) : Met l yX9_load (bw (Cond.code yX9_load cX9_load 3 (some .int))) rmX9_load (va_Pc [.ref (aM 0)] (zB D K sz (wbX9 K aM s0))) (zQ (some (.int q_)) D (va_A (wbX9 K aM s0) sz) (wbX9 K aM s0)) 0 0 (va_A (wbX9 K aM s0) sz) := by
  refine z_of (cc := cX9_load) (maxL := 3) (ret := (some .int)) (own := RX9) (lv := [(0, .ref (aM 0))]) (by decide) rfl rfl (Nat.le_of_ble_eq_true rfl) rfl ?_
  intro p e s m below meth c X hr hlk hK hN hsz hP hD hA hS hin ls hl
  generalize va_A (wbX9 K aM s0) sz = A at hD hA hS hN ⊢
  have hiX9 : ∀ w ∈ u_ws RX9 TX9 44, w ∈ (bw (Cond.code yX9_load cX9_load 3 (some .int))) := fun w h => bw_in (inlX9 w h)
  have L4_0 : ∀ (n : Nat), ∀ (n4_0 : Int32) (n4_1 : Int32) , fX9_load_4 s0 n n4_0 n4_1 = some q_ → ∀ (H : Heap) (locs : List Loc), va_P D vwCl (wbX9 K aM s0) H → va_D A (wbX9 K aM s0) → va_S A s.heap H locs → ∀ (ls : Array Slot), lv_has ls 3 [(0, .ref (aM 0)), (1, .int n4_0), (2, .int n4_1)] → W p l e rmX9_load s m ([.ref (aM 0)] : List Value).toArray below meth c H locs 0 0 (MQ below (zQ (some (.int q_)) D A (wbX9 K aM s0)) ([.ref (aM 0)] : List Value).toArray s 0 0 A) (F0 m 4 ls []) := by
    intro n
    induction n with
    | zero =>
      intro n4_0 n4_1  hf
      rw [fX9_load_4] at hf
      cases hf
    | succ n ih =>
      intro n4_0 n4_1  hf H locs hP hD hS ls hl
      rw [fX9_load_4] at hf
      refine lv_iload_n X.1 X.2.1 dX9_load_4 rfl (lv_at hl 2 rfl) ?_
      refine lv_bipush (v := 8) X.1 X.2.1 dX9_load_5 (by decide) ?_
      refine lv_icmp_ge (tgt := 71) X.1 X.2.1 dX9_load_7 (by decide) (fun c1 => ?_) (fun c1 => ?_)
      · have hf := ite_t hf c1
        refine lv_iload_n X.1 X.2.1 dX9_load_71 rfl (lv_at hl 1 rfl) ?_
        obtain rfl := z_inj1 hf
        exact z_iret X hr hlk hP hD hS dX9_load_72
      · have hf := ite_f hf c1
        refine lv_iload_n X.1 X.2.1 dX9_load_10 rfl (lv_at hl 1 rfl) ?_
        refine lv_aload_n X.1 X.2.1 dX9_load_11 rfl (lv_at hl 0 rfl) ?_
        refine z_get X hK hP hiX9 0 rfl rfl 18 (by decide) (bw_in W20_18) rfl dX9_load_12 ?_
        refine lv_iload_n X.1 X.2.1 dX9_load_15 rfl (lv_at hl 2 rfl) ?_
        obtain ⟨r2, hc3, hf⟩ := bd1_e hf
        refine z_S (n := 2) (As := [.int (s0 0 18), .int n4_1]) (rest := [.int n4_0]) X hK hN (kX9_isIn l D K _ (s0 0 18) n4_1 r2 hc3) (bw_S W21_8 W21_9 W1_5 W21_10) rfl ⟨rfl, rfl⟩ (by decide +kernel) rfl ⟨Nat.le_of_ble_eq_true rfl, Nat.le_of_ble_eq_true rfl⟩ (fun _ _ h => by simp at h) ⟨fun _ _ _ _ h => by simp at h, fun _ _ h => by simp at h⟩ (zj_none hP hD hS hA) hS hl.1 rfl (Nat.le_of_ble_eq_true rfl) dX9_load_16 ⟨Nat.zero_le _, Nat.zero_le _⟩ rfl (fun H locs hP hD hS => ?_)
        refine lv_if_eq (tgt := 31) X.1 X.2.1 dX9_load_19 (by decide) (fun c4 => ?_) (fun c4 => ?_)
        · have hf := ite_t hf c4
          refine lv_iconst (v := 0) X.1 X.2.1 dX9_load_31 (by decide) ?_
          refine lv_iadd X.1 X.2.1 dX9_load_32 ?_
          obtain ⟨w5, ew5, hf⟩ := stp_e hf
          refine z_top ew5 ?_
          refine lv_istore_n (lv' := [(1, .int w5), (0, .ref (aM 0)), (2, .int n4_1)]) X.1 X.2.1 dX9_load_33 rfl hl (by decide) rfl (fun ls hl => ?_)
          refine lv_iload_n X.1 X.2.1 dX9_load_34 rfl (lv_at hl 0 rfl) ?_
          refine lv_aload_n X.1 X.2.1 dX9_load_35 rfl (lv_at hl 1 rfl) ?_
          refine z_get X hK hP hiX9 0 rfl rfl 19 (by decide) (bw_in W20_19) rfl dX9_load_36 ?_
          refine lv_iload_n X.1 X.2.1 dX9_load_39 rfl (lv_at hl 2 rfl) ?_
          obtain ⟨r6, hc7, hf⟩ := bd1_e hf
          refine z_S (n := 2) (As := [.int (s0 0 19), .int n4_1]) (rest := [.int w5]) X hK hN (kX9_isIn l D K _ (s0 0 19) n4_1 r6 hc7) (bw_S W21_8 W21_9 W1_5 W21_10) rfl ⟨rfl, rfl⟩ (by decide +kernel) rfl ⟨Nat.le_of_ble_eq_true rfl, Nat.le_of_ble_eq_true rfl⟩ (fun _ _ h => by simp at h) ⟨fun _ _ _ _ h => by simp at h, fun _ _ h => by simp at h⟩ (zj_none hP hD hS hA) hS hl.1 rfl (Nat.le_of_ble_eq_true rfl) dX9_load_40 ⟨Nat.zero_le _, Nat.zero_le _⟩ rfl (fun H locs hP hD hS => ?_)
          refine lv_if_eq (tgt := 62) X.1 X.2.1 dX9_load_43 (by decide) (fun c8 => ?_) (fun c8 => ?_)
          · have hf := ite_t hf c8
            refine lv_iconst (v := 0) X.1 X.2.1 dX9_load_62 (by decide) ?_
            refine lv_iadd X.1 X.2.1 dX9_load_63 ?_
            obtain ⟨w9, ew9, hf⟩ := stp_e hf
            refine z_top ew9 ?_
            refine lv_istore_n (lv' := [(1, .int w9), (0, .ref (aM 0)), (2, .int n4_1)]) X.1 X.2.1 dX9_load_64 rfl hl (by decide) rfl (fun ls hl => ?_)
            obtain ⟨w10, ew10, hf⟩ := stp_e hf
            refine lv_iinc (v := w10) (lv' := [(2, .int w10), (1, .int w9), (0, .ref (aM 0))]) X.1 X.2.1 dX9_load_65 hl (k := 2) rfl (by rw [ew10]; rfl) (by decide) rfl (fun ls hl => ?_)
            refine lv_goto (tgt := 4) X.1 X.2.1 dX9_load_68 (by decide) ?_
            exact ih _ _ hf _ _ hP hD hS _ (lv_sub hl [2, 1, 0] rfl)
          · have hf := ite_f hf c8
            refine lv_aload_n X.1 X.2.1 dX9_load_46 rfl (lv_at hl 1 rfl) ?_
            refine z_get X hK hP hiX9 0 rfl rfl 3 (by decide) (bw_in W6_18) rfl dX9_load_47 ?_
            refine lv_aload_n X.1 X.2.1 dX9_load_50 rfl (lv_at hl 1 rfl) ?_
            refine z_get X hK hP hiX9 0 rfl rfl 8 (by decide) (bw_in W6_22) rfl dX9_load_51 ?_
            refine lv_iload_n X.1 X.2.1 dX9_load_54 rfl (lv_at hl 2 rfl) ?_
            obtain ⟨hi12, hf⟩ := chk_e hf
            obtain ⟨v11, ev11, hf⟩ := stp_e hf
            refine z_iald X hK hP 7 rfl hi12 ev11 dX9_load_55 ?_
            obtain ⟨hi14, hf⟩ := chk_e hf
            obtain ⟨v13, ev13, hf⟩ := stp_e hf
            refine z_iald X hK hP 3 rfl hi14 ev13 dX9_load_56 ?_
            refine lv_iconst (v := 2) X.1 X.2.1 dX9_load_57 (by decide) ?_
            refine lv_idiv X.1 X.2.1 dX9_load_58 (by decide) ?_
            refine lv_goto (tgt := 63) X.1 X.2.1 dX9_load_59 (by decide) ?_
            refine lv_iadd X.1 X.2.1 dX9_load_63 ?_
            obtain ⟨w15, ew15, hf⟩ := stp_e hf
            refine z_top ew15 ?_
            refine lv_istore_n (lv' := [(1, .int w15), (0, .ref (aM 0)), (2, .int n4_1)]) X.1 X.2.1 dX9_load_64 rfl hl (by decide) rfl (fun ls hl => ?_)
            obtain ⟨w16, ew16, hf⟩ := stp_e hf
            refine lv_iinc (v := w16) (lv' := [(2, .int w16), (1, .int w15), (0, .ref (aM 0))]) X.1 X.2.1 dX9_load_65 hl (k := 2) rfl (by rw [ew16]; rfl) (by decide) rfl (fun ls hl => ?_)
            refine lv_goto (tgt := 4) X.1 X.2.1 dX9_load_68 (by decide) ?_
            exact ih _ _ hf _ _ hP hD hS _ (lv_sub hl [2, 1, 0] rfl)
        · have hf := ite_f hf c4
          refine lv_aload_n X.1 X.2.1 dX9_load_22 rfl (lv_at hl 0 rfl) ?_
          refine z_get X hK hP hiX9 0 rfl rfl 3 (by decide) (bw_in W6_18) rfl dX9_load_23 ?_
          refine lv_iload_n X.1 X.2.1 dX9_load_26 rfl (lv_at hl 2 rfl) ?_
          obtain ⟨hi18, hf⟩ := chk_e hf
          obtain ⟨v17, ev17, hf⟩ := stp_e hf
          refine z_iald X hK hP 3 rfl hi18 ev17 dX9_load_27 ?_
          refine lv_goto (tgt := 32) X.1 X.2.1 dX9_load_28 (by decide) ?_
          refine lv_iadd X.1 X.2.1 dX9_load_32 ?_
          obtain ⟨w19, ew19, hf⟩ := stp_e hf
          refine z_top ew19 ?_
          refine lv_istore_n (lv' := [(1, .int w19), (0, .ref (aM 0)), (2, .int n4_1)]) X.1 X.2.1 dX9_load_33 rfl hl (by decide) rfl (fun ls hl => ?_)
          refine lv_iload_n X.1 X.2.1 dX9_load_34 rfl (lv_at hl 0 rfl) ?_
          refine lv_aload_n X.1 X.2.1 dX9_load_35 rfl (lv_at hl 1 rfl) ?_
          refine z_get X hK hP hiX9 0 rfl rfl 19 (by decide) (bw_in W20_19) rfl dX9_load_36 ?_
          refine lv_iload_n X.1 X.2.1 dX9_load_39 rfl (lv_at hl 2 rfl) ?_
          obtain ⟨r20, hc21, hf⟩ := bd1_e hf
          refine z_S (n := 2) (As := [.int (s0 0 19), .int n4_1]) (rest := [.int w19]) X hK hN (kX9_isIn l D K _ (s0 0 19) n4_1 r20 hc21) (bw_S W21_8 W21_9 W1_5 W21_10) rfl ⟨rfl, rfl⟩ (by decide +kernel) rfl ⟨Nat.le_of_ble_eq_true rfl, Nat.le_of_ble_eq_true rfl⟩ (fun _ _ h => by simp at h) ⟨fun _ _ _ _ h => by simp at h, fun _ _ h => by simp at h⟩ (zj_none hP hD hS hA) hS hl.1 rfl (Nat.le_of_ble_eq_true rfl) dX9_load_40 ⟨Nat.zero_le _, Nat.zero_le _⟩ rfl (fun H locs hP hD hS => ?_)
          refine lv_if_eq (tgt := 62) X.1 X.2.1 dX9_load_43 (by decide) (fun c22 => ?_) (fun c22 => ?_)
          · have hf := ite_t hf c22
            refine lv_iconst (v := 0) X.1 X.2.1 dX9_load_62 (by decide) ?_
            refine lv_iadd X.1 X.2.1 dX9_load_63 ?_
            obtain ⟨w23, ew23, hf⟩ := stp_e hf
            refine z_top ew23 ?_
            refine lv_istore_n (lv' := [(1, .int w23), (0, .ref (aM 0)), (2, .int n4_1)]) X.1 X.2.1 dX9_load_64 rfl hl (by decide) rfl (fun ls hl => ?_)
            obtain ⟨w24, ew24, hf⟩ := stp_e hf
            refine lv_iinc (v := w24) (lv' := [(2, .int w24), (1, .int w23), (0, .ref (aM 0))]) X.1 X.2.1 dX9_load_65 hl (k := 2) rfl (by rw [ew24]; rfl) (by decide) rfl (fun ls hl => ?_)
            refine lv_goto (tgt := 4) X.1 X.2.1 dX9_load_68 (by decide) ?_
            exact ih _ _ hf _ _ hP hD hS _ (lv_sub hl [2, 1, 0] rfl)
          · have hf := ite_f hf c22
            refine lv_aload_n X.1 X.2.1 dX9_load_46 rfl (lv_at hl 1 rfl) ?_
            refine z_get X hK hP hiX9 0 rfl rfl 3 (by decide) (bw_in W6_18) rfl dX9_load_47 ?_
            refine lv_aload_n X.1 X.2.1 dX9_load_50 rfl (lv_at hl 1 rfl) ?_
            refine z_get X hK hP hiX9 0 rfl rfl 8 (by decide) (bw_in W6_22) rfl dX9_load_51 ?_
            refine lv_iload_n X.1 X.2.1 dX9_load_54 rfl (lv_at hl 2 rfl) ?_
            obtain ⟨hi26, hf⟩ := chk_e hf
            obtain ⟨v25, ev25, hf⟩ := stp_e hf
            refine z_iald X hK hP 7 rfl hi26 ev25 dX9_load_55 ?_
            obtain ⟨hi28, hf⟩ := chk_e hf
            obtain ⟨v27, ev27, hf⟩ := stp_e hf
            refine z_iald X hK hP 3 rfl hi28 ev27 dX9_load_56 ?_
            refine lv_iconst (v := 2) X.1 X.2.1 dX9_load_57 (by decide) ?_
            refine lv_idiv X.1 X.2.1 dX9_load_58 (by decide) ?_
            refine lv_goto (tgt := 63) X.1 X.2.1 dX9_load_59 (by decide) ?_
            refine lv_iadd X.1 X.2.1 dX9_load_63 ?_
            obtain ⟨w29, ew29, hf⟩ := stp_e hf
            refine z_top ew29 ?_
            refine lv_istore_n (lv' := [(1, .int w29), (0, .ref (aM 0)), (2, .int n4_1)]) X.1 X.2.1 dX9_load_64 rfl hl (by decide) rfl (fun ls hl => ?_)
            obtain ⟨w30, ew30, hf⟩ := stp_e hf
            refine lv_iinc (v := w30) (lv' := [(2, .int w30), (1, .int w29), (0, .ref (aM 0))]) X.1 X.2.1 dX9_load_65 hl (k := 2) rfl (by rw [ew30]; rfl) (by decide) rfl (fun ls hl => ?_)
            refine lv_goto (tgt := 4) X.1 X.2.1 dX9_load_68 (by decide) ?_
            exact ih _ _ hf _ _ hP hD hS _ (lv_sub hl [2, 1, 0] rfl)
  rw [fX9_load] at hf
  refine lv_iconst (v := 0) X.1 X.2.1 dX9_load_0 (by decide) ?_
  refine lv_istore_n (lv' := [(1, .int 0), (0, .ref (aM 0))]) X.1 X.2.1 dX9_load_1 rfl hl (by decide) rfl (fun ls hl => ?_)
  refine lv_iconst (v := 0) X.1 X.2.1 dX9_load_2 (by decide) ?_
  refine lv_istore_n (lv' := [(2, .int 0), (1, .int 0), (0, .ref (aM 0))]) X.1 X.2.1 dX9_load_3 rfl hl (by decide) rfl (fun ls hl => ?_)
  exact L4_0  _ _ _ hf _ _ hP hD hS _ (lv_sub hl [2, 1, 0] rfl)
