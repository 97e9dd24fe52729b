abbrev rmX8_noSuchStep : Room := { frames := 0, cells := 0, slots := 0, locals := 0 }
set_option maxHeartbeats 4000000 in
set_option maxRecDepth 100000 in
theorem kX8_noSuchStep (l : Launch) (D : va_G) (K : Nat → ClassId)   (sz : Nat) (x1 : Int32) (q_ : Int32) (hf : fX8_noSuchStep x1 = some q_) : Met l yX8_noSuchStep (bw (Cond.code yX8_noSuchStep cX8_noSuchStep 1 (some .boolean))) rmX8_noSuchStep (va_Pc [.int x1] (zB D K sz (([] : va_W)))) (zQ (some (.int q_)) D (va_A (([] : va_W)) sz) (([] : va_W))) 0 0 (va_A (([] : va_W)) sz) := by
  refine z_of (cc := cX8_noSuchStep) (maxL := 1) (ret := (some .boolean)) (own := RX8) (lv := [(0, .int x1)]) (by decide) rfl rfl (Nat.le_of_ble_eq_true rfl) rfl ?_
  intro p e s m below meth c X hr hlk hK hN hsz hP hD hA hS hin ls hl
  generalize va_A (([] : va_W)) sz = A at hD hA hS hN ⊢
  rw [fX8_noSuchStep] at hf
  refine lv_iload_n X.1 X.2.1 dX8_noSuchStep_0 rfl (lv_at hl 0 rfl) ?_
  refine lv_if_lt (tgt := 11) X.1 X.2.1 dX8_noSuchStep_1 (by decide) (fun c1 => ?_) (fun c1 => ?_)
  · have hf := ite_t hf c1
    refine lv_iconst (v := 1) X.1 X.2.1 dX8_noSuchStep_11 (by decide) ?_
    refine lv_goto (tgt := 16) X.1 X.2.1 dX8_noSuchStep_12 (by decide) ?_
    obtain rfl := z_inj1 hf
    exact z_zret X hr hlk (by decide) hP hD hS dX8_noSuchStep_16
  · have hf := ite_f hf c1
    refine lv_iload_n X.1 X.2.1 dX8_noSuchStep_4 rfl (lv_at hl 0 rfl) ?_
    refine lv_sipush (v := 255) X.1 X.2.1 dX8_noSuchStep_5 (by decide) ?_
    refine lv_icmp_le (tgt := 15) X.1 X.2.1 dX8_noSuchStep_8 (by decide) (fun c2 => ?_) (fun c2 => ?_)
    · have hf := ite_t hf c2
      refine lv_iconst (v := 0) X.1 X.2.1 dX8_noSuchStep_15 (by decide) ?_
      obtain rfl := z_inj1 hf
      exact z_zret X hr hlk (by decide) hP hD hS dX8_noSuchStep_16
    · have hf := ite_f hf c2
      refine lv_iconst (v := 1) X.1 X.2.1 dX8_noSuchStep_11 (by decide) ?_
      refine lv_goto (tgt := 16) X.1 X.2.1 dX8_noSuchStep_12 (by decide) ?_
      obtain rfl := z_inj1 hf
      exact z_zret X hr hlk (by decide) hP hD hS dX8_noSuchStep_16
abbrev rmX6_allowed : Room := { frames := 1, cells := 0, slots := 0, locals := 20 }
set_option maxHeartbeats 4000000 in
set_option maxRecDepth 100000 in
theorem kX6_allowed (l : Launch) (D : va_G) (K : Nat → ClassId) (aS : Nat → Nat) (v0 : St) (sz : Nat) (x1 : Int32) (x2 : Int32) (q_ : Int32) (hf : fX6_allowed v0 x1 x2 = some q_) : Met l yX6_allowed (bw (Cond.code yX6_allowed cX6_allowed 3 (some .boolean))) rmX6_allowed (va_Pc [.ref (aS 0), .int x1, .int x2] (zB D K sz (wbX6 K aS v0))) (zQ (some (.int q_)) D (va_A (wbX6 K aS v0) sz) (wbX6 K aS v0)) 0 0 (va_A (wbX6 K aS v0) sz) := by
  refine z_of (cc := cX6_allowed) (maxL := 3) (ret := (some .boolean)) (own := RX6) (lv := [(0, .ref (aS 0)), (1, .int x1), (2, .int x2)]) (by decide) rfl rfl (Nat.le_of_ble_eq_true rfl) rfl ?_
  intro p e s m below meth c X hr hlk hK hN hsz hP hD hA hS hin ls hl
  generalize va_A (wbX6 K aS v0) sz = A at hD hA hS hN ⊢
  rw [fX6_allowed] at hf
  refine lv_iload_n X.1 X.2.1 dX6_allowed_0 rfl (lv_at hl 1 rfl) ?_
  obtain ⟨r1, hc2, hf⟩ := bd1_e hf
  refine z_SN (n := 1) (As := [.int x1]) (rest := []) (host := "LeaversFloor") X hK hN (kX8_noSuchStep l D K _ x1 r1 hc2) (bw_G W18_22) (by decide) (bw_in W1_2) (bw_in W18_21) rfl ⟨rfl, rfl⟩ (by decide +kernel) rfl ⟨Nat.le_of_ble_eq_true rfl, Nat.le_of_ble_eq_true rfl⟩ (fun _ _ h => by simp at h) ⟨fun _ _ _ _ h => by simp at h, fun _ _ h => by simp at h⟩ (zj_none hP hD hS hA) hS hl.1 rfl (Nat.le_of_ble_eq_true rfl) dX6_allowed_1 ⟨Nat.zero_le _, Nat.zero_le _⟩ rfl (fun H locs hP hD hS => ?_)
  refine lv_if_ne (tgt := 22) X.1 X.2.1 dX6_allowed_4 (by decide) (fun c3 => ?_) (fun c3 => ?_)
  · have hf := ite_f hf c3
    refine lv_iconst (v := 0) X.1 X.2.1 dX6_allowed_22 (by decide) ?_
    obtain rfl := z_inj1 hf
    exact z_zret X hr hlk (by decide) hP hD hS dX6_allowed_23
  · have hf := ite_t hf c3
    refine lv_iload_n X.1 X.2.1 dX6_allowed_7 rfl (lv_at hl 2 rfl) ?_
    refine lv_if_lt (tgt := 22) X.1 X.2.1 dX6_allowed_8 (by decide) (fun c4 => ?_) (fun c4 => ?_)
    · have hf := ite_t hf c4
      refine lv_iconst (v := 0) X.1 X.2.1 dX6_allowed_22 (by decide) ?_
      obtain rfl := z_inj1 hf
      exact z_zret X hr hlk (by decide) hP hD hS dX6_allowed_23
    · have hf := ite_f hf c4
      refine lv_iload_n X.1 X.2.1 dX6_allowed_11 rfl (lv_at hl 2 rfl) ?_
      refine lv_sipush (v := 999) X.1 X.2.1 dX6_allowed_12 (by decide) ?_
      refine lv_icmp_gt (tgt := 22) X.1 X.2.1 dX6_allowed_15 (by decide) (fun c5 => ?_) (fun c5 => ?_)
      · have hf := ite_t hf c5
        refine lv_iconst (v := 0) X.1 X.2.1 dX6_allowed_22 (by decide) ?_
        obtain rfl := z_inj1 hf
        exact z_zret X hr hlk (by decide) hP hD hS dX6_allowed_23
      · have hf := ite_f hf c5
        refine lv_iconst (v := 1) X.1 X.2.1 dX6_allowed_18 (by decide) ?_
        refine lv_goto (tgt := 23) X.1 X.2.1 dX6_allowed_19 (by decide) ?_
        obtain rfl := z_inj1 hf
        exact z_zret X hr hlk (by decide) hP hD hS dX6_allowed_23
abbrev rmX6_comeOut : Room := { frames := 1, cells := 0, slots := 0, locals := 22 }
set_option maxHeartbeats 4000000 in
set_option maxRecDepth 100000 in
theorem kX6_comeOut (l : Launch) (D : va_G) (K : Nat → ClassId) (aS : Nat → Nat) (aH : Nat → Nat) (aR : Nat → Nat) (v0 : St) (h0 : St) (r0 : St) (sz : Nat)  (q_ : Int32) (hf : fX6_comeOut v0 h0 r0 = some q_) : Met l yX6_comeOut (bw (Cond.code yX6_comeOut cX6_comeOut 3 (some .boolean))) rmX6_comeOut (va_Pc [.ref (aS 0), .ref (aR 0)] (zB D K sz (wbX6 K aS v0 ++ (wbX2 K aH h0 ++ (wbX4 K (aH 0) aR r0))))) (zQ (some (.int q_)) D (va_A (wbX6 K aS v0 ++ (wbX2 K aH h0 ++ (wbX4 K (aH 0) aR r0))) sz) (wbX6 K aS v0 ++ (wbX2 K aH h0 ++ (wbX4 K (aH 0) aR r0)))) 0 0 (va_A (wbX6 K aS v0 ++ (wbX2 K aH h0 ++ (wbX4 K (aH 0) aR r0))) sz) := by
  refine z_of (cc := cX6_comeOut) (maxL := 3) (ret := (some .boolean)) (own := RX6) (lv := [(0, .ref (aS 0)), (1, .ref (aR 0))]) (by decide) rfl rfl (Nat.le_of_ble_eq_true rfl) rfl ?_
  intro p e s m below meth c X hr hlk hK hN hsz hP hD hA hS hin ls hl
  generalize va_A (wbX6 K aS v0 ++ (wbX2 K aH h0 ++ (wbX4 K (aH 0) aR r0))) sz = A at hD hA hS hN ⊢
  have hiX4 : ∀ w ∈ u_ws RX4 TX4 12, w ∈ (bw (Cond.code yX6_comeOut cX6_comeOut 3 (some .boolean))) := fun w h => bw_in (inlX4 w h)
  have hiX6 : ∀ w ∈ u_ws RX6 TX6 3, w ∈ (bw (Cond.code yX6_comeOut cX6_comeOut 3 (some .boolean))) := fun w h => bw_in (inlX6 w h)
  have L2_0 : ∀ (n : Nat), ∀ (n2_0 : Int32) , fX6_comeOut_2 v0 h0 r0 n n2_0 = some q_ → ∀ (H : Heap) (locs : List Loc), va_P D vwCl (wbX6 K aS v0 ++ (wbX2 K aH h0 ++ (wbX4 K (aH 0) aR r0))) H → va_D A (wbX6 K aS v0 ++ (wbX2 K aH h0 ++ (wbX4 K (aH 0) aR r0))) → va_S A s.heap H locs → ∀ (ls : Array Slot), lv_has ls 3 [(0, .ref (aS 0)), (1, .ref (aR 0)), (2, .int n2_0)] → W p l e rmX6_comeOut s m ([.ref (aS 0), .ref (aR 0)] : List Value).toArray below meth c H locs 0 0 (MQ below (zQ (some (.int q_)) D A (wbX6 K aS v0 ++ (wbX2 K aH h0 ++ (wbX4 K (aH 0) aR r0)))) ([.ref (aS 0), .ref (aR 0)] : List Value).toArray s 0 0 A) (F0 m 2 ls []) := by
    intro n
    induction n with
    | zero =>
      intro n2_0  hf
      rw [fX6_comeOut_2] at hf
      cases hf
    | succ n ih =>
      intro n2_0  hf H locs hP hD hS ls hl
      rw [fX6_comeOut_2] at hf
      refine lv_iload_n X.1 X.2.1 dX6_comeOut_2 rfl (lv_at hl 2 rfl) ?_
      refine lv_aload_n X.1 X.2.1 dX6_comeOut_3 rfl (lv_at hl 0 rfl) ?_
      refine z_get X hK hP hiX6 0 rfl rfl 0 (by decide) (bw_in W5_10) rfl dX6_comeOut_4 ?_
      refine lv_icmp_ge (tgt := 42) X.1 X.2.1 dX6_comeOut_7 (by decide) (fun c1 => ?_) (fun c1 => ?_)
      · have hf := ite_t hf c1
        refine lv_iconst (v := 1) X.1 X.2.1 dX6_comeOut_42 (by decide) ?_
        obtain rfl := z_inj1 hf
        exact z_zret X hr hlk (by decide) hP hD hS dX6_comeOut_43
      · have hf := ite_f hf c1
        refine lv_aload_n X.1 X.2.1 dX6_comeOut_10 rfl (lv_at hl 1 rfl) ?_
        refine z_get X hK hP hiX4 12 rfl rfl 3 (by decide) (bw_in W33_5) rfl dX6_comeOut_11 ?_
        refine lv_aload_n X.1 X.2.1 dX6_comeOut_14 rfl (lv_at hl 1 rfl) ?_
        refine lv_aload_n X.1 X.2.1 dX6_comeOut_15 rfl (lv_at hl 0 rfl) ?_
        refine z_get X hK hP hiX6 0 rfl rfl 1 (by decide) (bw_in W5_11) rfl dX6_comeOut_16 ?_
        refine lv_iload_n X.1 X.2.1 dX6_comeOut_19 rfl (lv_at hl 2 rfl) ?_
        obtain ⟨hi3, hf⟩ := chk_e hf
        obtain ⟨v2, ev2, hf⟩ := stp_e hf
        refine z_iald X hK hP 1 rfl hi3 ev2 dX6_comeOut_20 ?_
        obtain ⟨r4, hc5, hf⟩ := bd1_e hf
        refine z_V (n := 1) (As := [.int v2]) (rest := [.ref (aR 4)]) (ci := 4) (q0 := 9) X hK hN (kX4_rowBehind l D K aH aR h0 r0 _ v2 r4 hc5) (bw_V W33_6 W19_4 W19_5 W1_22 W19_6) rfl ⟨rfl, rfl⟩ (by decide +kernel) rfl ⟨Nat.le_of_ble_eq_true rfl, Nat.le_of_ble_eq_true rfl⟩ (hP.sub [3, 4, 5, 6, 7, 8, 9, 10, 11, 12, 13, 14, 15, 16, 17, 18, 19, 20, 21] rfl) (hD.sub [3, 4, 5, 6, 7, 8, 9, 10, 11, 12, 13, 14, 15, 16, 17, 18, 19, 20, 21] (by decide) rfl) rfl rfl (zj_sub (ws' := wbX6 K aS v0 ++ (wbX2 K aH h0 ++ (wbX4 K (aH 0) aR r0))) hP hD hS hA [3, 4, 5, 6, 7, 8, 9, 10, 11, 12, 13, 14, 15, 16, 17, 18, 19, 20, 21] [0, 1, 2] [0, 1, 2, 3, 4, 5, 6, 7, 8, 9, 10, 11, 12, 13, 14, 15, 16, 17, 18, 19, 20, 21] rfl rfl (by decide) (by decide) (by decide) rfl) hS hl.1 rfl (Nat.le_of_ble_eq_true rfl) dX6_comeOut_21 ⟨Nat.zero_le _, Nat.zero_le _⟩ rfl (fun H locs hP hD hS => ?_)
        obtain ⟨hi7, hf⟩ := chk_e hf
        obtain ⟨v6, ev6, hf⟩ := stp_e hf
        refine z_iald X hK hP 15 rfl hi7 ev6 dX6_comeOut_24 ?_
        refine lv_aload_n X.1 X.2.1 dX6_comeOut_25 rfl (lv_at hl 0 rfl) ?_
        refine z_get X hK hP hiX6 0 rfl rfl 2 (by decide) (bw_in W5_12) rfl dX6_comeOut_26 ?_
        refine lv_iload_n X.1 X.2.1 dX6_comeOut_29 rfl (lv_at hl 2 rfl) ?_
        obtain ⟨hi9, hf⟩ := chk_e hf
        obtain ⟨v8, ev8, hf⟩ := stp_e hf
        refine z_iald X hK hP 2 rfl hi9 ev8 dX6_comeOut_30 ?_
        refine lv_icmp_eq (tgt := 36) X.1 X.2.1 dX6_comeOut_31 (by decide) (fun c10 => ?_) (fun c10 => ?_)
        · have hf := ite_t hf c10
          obtain ⟨w11, ew11, hf⟩ := stp_e hf
          refine lv_iinc (v := w11) (lv' := [(2, .int w11), (0, .ref (aS 0)), (1, .ref (aR 0))]) X.1 X.2.1 dX6_comeOut_36 hl (k := 2) rfl (by rw [ew11]; rfl) (by decide) rfl (fun ls hl => ?_)
          refine lv_goto (tgt := 2) X.1 X.2.1 dX6_comeOut_39 (by decide) ?_
          exact ih _ hf _ _ hP hD hS _ (lv_sub hl [1, 2, 0] rfl)
        · have hf := ite_f hf c10
          refine lv_iconst (v := 0) X.1 X.2.1 dX6_comeOut_34 (by decide) ?_
          obtain rfl := z_inj1 hf
          exact z_zret X hr hlk (by decide) hP hD hS dX6_comeOut_35
  rw [fX6_comeOut] at hf
  refine lv_iconst (v := 0) X.1 X.2.1 dX6_comeOut_0 (by decide) ?_
  refine lv_istore_n (lv' := [(2, .int 0), (0, .ref (aS 0)), (1, .ref (aR 0))]) X.1 X.2.1 dX6_comeOut_1 rfl hl (by decide) rfl (fun ls hl => ?_)
  exact L2_0  _ _ hf _ _ hP hD hS _ (lv_sub hl [1, 2, 0] rfl)
abbrev rmX3_note : Room := { frames := 0, cells := 0, slots := 0, locals := 0 }
set_option maxHeartbeats 4000000 in
set_option maxRecDepth 100000 in
theorem kX3_note (l : Launch) (D : va_G) (K : Nat → ClassId) (aA : Nat) (nA : Nat) (a0 : Nat → Int32) (sz : Nat) (x2 : Int32) (x3 : Int32) (x4 : Int32) (a_ : Nat → Int32) (hf : fX3_note nA a0 x2 x3 x4 = some a_) : Met l yX3_note (bw (Cond.code yX3_note cX3_note 4 none)) rmX3_note (va_Pc [.ref aA, .int x2, .int x3, .int x4] (zB D K sz (wbARR K aA nA a0))) (zQ (none) D (va_A (wbARR K aA nA a0) sz) (wbARR K aA nA a_)) 0 0 (va_A (wbARR K aA nA a0) sz) := by
  refine z_of (cc := cX3_note) (maxL := 4) (ret := none) (own := RX3) (lv := [(0, .ref aA), (1, .int x2), (2, .int x3), (3, .int x4)]) (by decide) rfl rfl (Nat.le_of_ble_eq_true rfl) rfl ?_
  intro p e s m below meth c X hr hlk hK hN hsz hP hD hA hS hin ls hl
  generalize va_A (wbARR K aA nA a0) sz = A at hD hA hS hN ⊢
  rw [fX3_note] at hf
  refine lv_aload_n X.1 X.2.1 dX3_note_0 rfl (lv_at hl 0 rfl) ?_
  refine lv_iconst (v := 0) X.1 X.2.1 dX3_note_1 (by decide) ?_
  refine lv_iload_n X.1 X.2.1 dX3_note_2 rfl (lv_at hl 1 rfl) ?_
  obtain ⟨hi1, hf⟩ := chk_e hf
  obtain ⟨a2, ea2, hf⟩ := stp_e hf
  refine z_iast (ws' := wbARR K aA nA a2) X hK hP hD hS 0 rfl hi1 dX3_note_3 (by rw [ea2]; rfl) (fun H locs hP hD hS => ?_)
  refine lv_aload_n X.1 X.2.1 dX3_note_4 rfl (lv_at hl 0 rfl) ?_
  refine lv_iconst (v := 1) X.1 X.2.1 dX3_note_5 (by decide) ?_
  refine lv_iload_n X.1 X.2.1 dX3_note_6 rfl (lv_at hl 2 rfl) ?_
  obtain ⟨hi3, hf⟩ := chk_e hf
  obtain ⟨a4, ea4, hf⟩ := stp_e hf
  refine z_iast (ws' := wbARR K aA nA a4) X hK hP hD hS 0 rfl hi3 dX3_note_7 (by rw [ea4]; rfl) (fun H locs hP hD hS => ?_)
  refine lv_aload_n X.1 X.2.1 dX3_note_8 rfl (lv_at hl 0 rfl) ?_
  refine lv_iconst (v := 2) X.1 X.2.1 dX3_note_9 (by decide) ?_
  refine lv_iload_n X.1 X.2.1 dX3_note_10 rfl (lv_at hl 3 rfl) ?_
  obtain ⟨hi5, hf⟩ := chk_e hf
  obtain ⟨a6, ea6, hf⟩ := stp_e hf
  refine z_iast (ws' := wbARR K aA nA a6) X hK hP hD hS 0 rfl hi5 dX3_note_11 (by rw [ea6]; rfl) (fun H locs hP hD hS => ?_)
  obtain rfl := z_inj1 hf
  exact z_vret X hr hlk hP hD hS dX3_note_12
abbrev rmX3_findTwoMore : Room := { frames := 3, cells := 0, slots := 0, locals := 75 }
set_option maxHeartbeats 4000000 in
set_option maxRecDepth 100000 in
theorem kX3_findTwoMore (l : Launch) (D : va_G) (K : Nat → ClassId) (aH : Nat → Nat) (aR : Nat → Nat) (aP : Nat → Nat) (h0 : St) (r0 : St) (p0 : St) (pL0 : Lt) (sz : Nat) (x1 : Int32) (r_ : St) (p_ : St) (hf : fX3_findTwoMore h0 r0 p0 pL0 x1 = some (r_, p_)) : Met l yX3_findTwoMore (bw (Cond.code yX3_findTwoMore cX3_findTwoMore 5 none)) rmX3_findTwoMore (va_Pc [.ref (aP 0), .int x1] (zB D K sz (wbX2 K aH h0 ++ (wbX4 K (aH 0) aR r0 ++ (wbX3 K (aH 0) (aR 0) aP p0 pL0))))) (zQ (none) D (va_A (wbX2 K aH h0 ++ (wbX4 K (aH 0) aR r0 ++ (wbX3 K (aH 0) (aR 0) aP p0 pL0))) sz) (wbX2 K aH h0 ++ (wbX4 K (aH 0) aR r_ ++ (wbX3 K (aH 0) (aR 0) aP p_ pL0)))) 0 0 (va_A (wbX2 K aH h0 ++ (wbX4 K (aH 0) aR r0 ++ (wbX3 K (aH 0) (aR 0) aP p0 pL0))) sz) := by
  refine z_of (cc := cX3_findTwoMore) (maxL := 5) (ret := none) (own := RX3) (lv := [(0, .ref (aP 0)), (1, .int x1)]) (by decide) rfl rfl (Nat.le_of_ble_eq_true rfl) rfl ?_
  intro p e s m below meth c X hr hlk hK hN hsz hP hD hA hS hin ls hl
  generalize va_A (wbX2 K aH h0 ++ (wbX4 K (aH 0) aR r0 ++ (wbX3 K (aH 0) (aR 0) aP p0 pL0))) sz = A at hD hA hS hN ⊢
  have hiX3 : ∀ w ∈ u_ws RX3 TX3 7, w ∈ (bw (Cond.code yX3_findTwoMore cX3_findTwoMore 5 none)) := fun w h => bw_in (inlX3 w h)
  have hiX4 : ∀ w ∈ u_ws RX4 TX4 12, w ∈ (bw (Cond.code yX3_findTwoMore cX3_findTwoMore 5 none)) := fun w h => bw_in (inlX4 w h)
  have L35_1 : ∀ (rec2 : Int32 → Int32 → St → St → Option (St × St)) (hrec2 : ∀ (n2_0 : Int32) (n2_1 : Int32) (q2_R : St) (q2_P : St), rec2 n2_0 n2_1 q2_R q2_P = some ((r_, p_)) → ∀ (H : Heap) (locs : List Loc), va_P D vwCl (wbX2 K aH h0 ++ (wbX4 K (aH 0) aR q2_R ++ (wbX3 K (aH 0) (aR 0) aP q2_P pL0))) H → va_D A (wbX2 K aH h0 ++ (wbX4 K (aH 0) aR q2_R ++ (wbX3 K (aH 0) (aR 0) aP q2_P pL0))) → va_S A s.heap H locs → ∀ (ls : Array Slot), lv_has ls 5 [(0, .ref (aP 0)), (1, .int n2_0), (2, .int n2_1)] → W p l e rmX3_findTwoMore s m ([.ref (aP 0), .int x1] : List Value).toArray below meth c H locs 0 0 (MQ below (zQ (none) D A (wbX2 K aH h0 ++ (wbX4 K (aH 0) aR r_ ++ (wbX3 K (aH 0) (aR 0) aP p_ pL0)))) ([.ref (aP 0), .int x1] : List Value).toArray s 0 0 A) (F0 m 2 ls [])), ∀ (n : Nat), ∀ (n35_0 : Int32) (n35_1 : Int32) (n35_2 : Int32) (n35_3 : Int32) (q35_R : St) (q35_P : St), fX3_findTwoMore_35 h0 pL0 rec2 n n35_0 n35_1 n35_2 n35_3 q35_R q35_P = some ((r_, p_)) → ∀ (H : Heap) (locs : List Loc), va_P D vwCl (wbX2 K aH h0 ++ (wbX4 K (aH 0) aR q35_R ++ (wbX3 K (aH 0) (aR 0) aP q35_P pL0))) H → va_D A (wbX2 K aH h0 ++ (wbX4 K (aH 0) aR q35_R ++ (wbX3 K (aH 0) (aR 0) aP q35_P pL0))) → va_S A s.heap H locs → ∀ (ls : Array Slot), lv_has ls 5 [(0, .ref (aP 0)), (1, .int n35_0), (2, .int n35_1), (3, .int n35_2), (4, .int n35_3)] → W p l e rmX3_findTwoMore s m ([.ref (aP 0), .int x1] : List Value).toArray below meth c H locs 0 0 (MQ below (zQ (none) D A (wbX2 K aH h0 ++ (wbX4 K (aH 0) aR r_ ++ (wbX3 K (aH 0) (aR 0) aP p_ pL0)))) ([.ref (aP 0), .int x1] : List Value).toArray s 0 0 A) (F0 m 35 ls []) := by
    intro rec2 hrec2 n
    induction n with
    | zero =>
      intro n35_0 n35_1 n35_2 n35_3 q35_R q35_P hf
      rw [fX3_findTwoMore_35] at hf
      cases hf
    | succ n ih =>
      intro n35_0 n35_1 n35_2 n35_3 q35_R q35_P hf H locs hP hD hS ls hl
      rw [fX3_findTwoMore_35] at hf
      refine lv_iload X.1 X.2.1 dX3_findTwoMore_35 (lv_at hl 4 rfl) ?_
      refine lv_bipush (v := 10) X.1 X.2.1 dX3_findTwoMore_37 (by decide) ?_
      refine lv_icmp_ge (tgt := 87) X.1 X.2.1 dX3_findTwoMore_39 (by decide) (fun c6 => ?_) (fun c6 => ?_)
      · have hf := ite_t hf c6
        obtain ⟨w7, ew7, hf⟩ := stp_e hf
        refine lv_iinc (v := w7) (lv' := [(2, .int w7), (0, .ref (aP 0)), (1, .int n35_0), (3, .int n35_2), (4, .int n35_3)]) X.1 X.2.1 dX3_findTwoMore_87 hl (k := 2) rfl (by rw [ew7]; rfl) (by decide) rfl (fun ls hl => ?_)
        refine lv_goto (tgt := 2) X.1 X.2.1 dX3_findTwoMore_90 (by decide) ?_
        exact hrec2 _ _ _ _ hf _ _ hP hD hS _ (lv_sub hl [1, 2, 0] rfl)
      · have hf := ite_f hf c6
        refine lv_aload_n X.1 X.2.1 dX3_findTwoMore_42 rfl (lv_at hl 0 rfl) ?_
        refine z_get X hK hP hiX3 19 rfl rfl 1 (by decide) (bw_in W4_20) rfl dX3_findTwoMore_43 ?_
        refine lv_iload_n X.1 X.2.1 dX3_findTwoMore_46 rfl (lv_at hl 3 rfl) ?_
        obtain ⟨r8, er8, hf⟩ := stp_e hf
        refine z_put (ws' := wbX2 K aH h0 ++ (wbX4 K (aH 0) aR r8 ++ (wbX3 K (aH 0) (aR 0) aP q35_P pL0))) X hK hP hD hS hiX4 tyX4_ok nmX4 9 rfl rfl 9 (by decide) (bw_in W26_23) rfl rfl rfl (Nat.le_of_ble_eq_true rfl) dX3_findTwoMore_47 (by rw [er8]; rfl) (fun H locs hP hD hS => ?_)
        refine lv_aload_n X.1 X.2.1 dX3_findTwoMore_50 rfl (lv_at hl 0 rfl) ?_
        refine z_get X hK hP hiX3 19 rfl rfl 1 (by decide) (bw_in W4_20) rfl dX3_findTwoMore_51 ?_
        refine lv_iload X.1 X.2.1 dX3_findTwoMore_54 (lv_at hl 4 rfl) ?_
        obtain ⟨r9, hc10, hf⟩ := bd1_e hf
        refine z_V (n := 1) (As := [.int n35_3]) (rest := []) (ci := 4) (q0 := 9) X hK hN (kX4_goTo l D K aH aR h0 r8 _ n35_3 r9 hc10) (bw_V W27_21 W14_5 W14_6 W1_22 W14_7) rfl ⟨rfl, rfl⟩ (by decide +kernel) rfl ⟨Nat.le_of_ble_eq_true rfl, Nat.le_of_ble_eq_true rfl⟩ (hP.sub [0, 1, 2, 3, 4, 5, 6, 7, 8, 9, 10, 11, 12, 13, 14, 15, 16, 17, 18] rfl) (hD.sub [0, 1, 2, 3, 4, 5, 6, 7, 8, 9, 10, 11, 12, 13, 14, 15, 16, 17, 18] (by decide) rfl) rfl rfl (zj_sub (ws' := wbX2 K aH h0 ++ (wbX4 K (aH 0) aR r9 ++ (wbX3 K (aH 0) (aR 0) aP q35_P pL0))) hP hD hS hA [0, 1, 2, 3, 4, 5, 6, 7, 8, 9, 10, 11, 12, 13, 14, 15, 16, 17, 18] [19, 20, 21, 22] [4, 5, 6, 7, 8, 9, 10, 11, 12, 13, 14, 15, 16, 17, 18, 19, 20, 21, 22, 0, 1, 2, 3] rfl rfl (by decide) (by decide) (by decide) rfl) hS hl.1 rfl (Nat.le_of_ble_eq_true rfl) dX3_findTwoMore_56 ⟨Nat.zero_le _, Nat.zero_le _⟩ rfl (fun H locs hP hD hS => ?_)
        refine lv_aload_n X.1 X.2.1 dX3_findTwoMore_59 rfl (lv_at hl 0 rfl) ?_
        refine z_get X hK hP hiX3 19 rfl rfl 1 (by decide) (bw_in W4_20) rfl dX3_findTwoMore_60 ?_
        obtain ⟨r11, hc12, hf⟩ := bd1_e hf
        refine z_V (n := 0) (As := []) (rest := []) (ci := 4) (q0 := 9) X hK hN (kX4_allArrived l D K aH aR h0 r9 _ r11 hc12) (bw_V W27_6 W27_7 W27_8 W1_22 W27_9) rfl ⟨rfl, rfl⟩ (by decide +kernel) rfl ⟨Nat.le_of_ble_eq_true rfl, Nat.le_of_ble_eq_true rfl⟩ (hP.sub [0, 1, 2, 3, 4, 5, 6, 7, 8, 9, 10, 11, 12, 13, 14, 15, 16, 17, 18] rfl) (hD.sub [0, 1, 2, 3, 4, 5, 6, 7, 8, 9, 10, 11, 12, 13, 14, 15, 16, 17, 18] (by decide) rfl) rfl rfl (zj_sub (ws' := wbX2 K aH h0 ++ (wbX4 K (aH 0) aR r9 ++ (wbX3 K (aH 0) (aR 0) aP q35_P pL0))) hP hD hS hA [0, 1, 2, 3, 4, 5, 6, 7, 8, 9, 10, 11, 12, 13, 14, 15, 16, 17, 18] [19, 20, 21, 22] [4, 5, 6, 7, 8, 9, 10, 11, 12, 13, 14, 15, 16, 17, 18, 19, 20, 21, 22, 0, 1, 2, 3] rfl rfl (by decide) (by decide) (by decide) rfl) hS hl.1 rfl (Nat.le_of_ble_eq_true rfl) dX3_findTwoMore_63 ⟨Nat.zero_le _, Nat.zero_le _⟩ rfl (fun H locs hP hD hS => ?_)
        refine lv_if_eq (tgt := 81) X.1 X.2.1 dX3_findTwoMore_66 (by decide) (fun c13 => ?_) (fun c13 => ?_)
        · have hf := ite_t hf c13
          obtain ⟨w14, ew14, hf⟩ := stp_e hf
          refine lv_iinc (v := w14) (lv' := [(4, .int w14), (0, .ref (aP 0)), (1, .int n35_0), (2, .int n35_1), (3, .int n35_2)]) X.1 X.2.1 dX3_findTwoMore_81 hl (k := 4) rfl (by rw [ew14]; rfl) (by decide) rfl (fun ls hl => ?_)
          refine lv_goto (tgt := 35) X.1 X.2.1 dX3_findTwoMore_84 (by decide) ?_
          exact ih _ _ _ _ _ _ hf _ _ hP hD hS _ (lv_sub hl [1, 2, 3, 4, 0] rfl)
        · have hf := ite_f hf c13
          refine lv_aload_n X.1 X.2.1 dX3_findTwoMore_69 rfl (lv_at hl 0 rfl) ?_
          refine z_get X hK hP hiX3 19 rfl rfl 3 (by decide) (bw_in W4_14) rfl dX3_findTwoMore_70 ?_
          refine lv_iconst (v := 2) X.1 X.2.1 dX3_findTwoMore_73 (by decide) ?_
          refine lv_iload_n X.1 X.2.1 dX3_findTwoMore_74 rfl (lv_at hl 2 rfl) ?_
          refine lv_iload X.1 X.2.1 dX3_findTwoMore_75 (lv_at hl 4 rfl) ?_
          obtain ⟨a15, hc16, hf⟩ := bd1_e hf
          obtain ⟨p17, ep17, hf⟩ := stp_e hf
          refine z_S (n := 4) (As := [.ref (aP 4), .int 2, .int n35_1, .int n35_3]) (rest := []) X hK hN (kX3_note l D K (aP 4) 3 (q35_P 4) _ 2 n35_1 n35_3 a15 hc16) (bw_S W27_0 W27_1 W2_3 W27_2) rfl ⟨rfl, rfl⟩ (by decide +kernel) rfl ⟨Nat.le_of_ble_eq_true rfl, Nat.le_of_ble_eq_true rfl⟩ (hP.sub [20] rfl) (hD.sub [20] (by decide) rfl) (zj_sub (ws' := wbX2 K aH h0 ++ (wbX4 K (aH 0) aR r9 ++ (wbX3 K (aH 0) (aR 0) aP p17 pL0))) hP hD hS hA [20] [0, 1, 2, 3, 4, 5, 6, 7, 8, 9, 10, 11, 12, 13, 14, 15, 16, 17, 18, 19, 21, 22] [0, 1, 2, 3, 4, 5, 6, 7, 8, 9, 10, 11, 12, 13, 14, 15, 16, 17, 18, 19, 22, 20, 21] rfl rfl (by decide) (by decide) (by decide) (by rw [ep17]; rfl)) hS hl.1 rfl (Nat.le_of_ble_eq_true rfl) dX3_findTwoMore_77 ⟨Nat.zero_le _, Nat.zero_le _⟩ rfl (fun H locs hP hD hS => ?_)
          obtain ⟨rfl, rfl⟩ := z_inj2 hf
          exact z_vret X hr hlk hP hD hS dX3_findTwoMore_80
  have L2_0 : ∀ (n : Nat), ∀ (n2_0 : Int32) (n2_1 : Int32) (q2_R : St) (q2_P : St), fX3_findTwoMore_2 h0 pL0 n n2_0 n2_1 q2_R q2_P = some ((r_, p_)) → ∀ (H : Heap) (locs : List Loc), va_P D vwCl (wbX2 K aH h0 ++ (wbX4 K (aH 0) aR q2_R ++ (wbX3 K (aH 0) (aR 0) aP q2_P pL0))) H → va_D A (wbX2 K aH h0 ++ (wbX4 K (aH 0) aR q2_R ++ (wbX3 K (aH 0) (aR 0) aP q2_P pL0))) → va_S A s.heap H locs → ∀ (ls : Array Slot), lv_has ls 5 [(0, .ref (aP 0)), (1, .int n2_0), (2, .int n2_1)] → W p l e rmX3_findTwoMore s m ([.ref (aP 0), .int x1] : List Value).toArray below meth c H locs 0 0 (MQ below (zQ (none) D A (wbX2 K aH h0 ++ (wbX4 K (aH 0) aR r_ ++ (wbX3 K (aH 0) (aR 0) aP p_ pL0)))) ([.ref (aP 0), .int x1] : List Value).toArray s 0 0 A) (F0 m 2 ls []) := by
    intro n
    induction n with
    | zero =>
      intro n2_0 n2_1 q2_R q2_P hf
      rw [fX3_findTwoMore_2] at hf
      cases hf
    | succ n ih =>
      intro n2_0 n2_1 q2_R q2_P hf H locs hP hD hS ls hl
      rw [fX3_findTwoMore_2] at hf
      refine lv_iload_n X.1 X.2.1 dX3_findTwoMore_2 rfl (lv_at hl 2 rfl) ?_
      refine lv_bipush (v := 10) X.1 X.2.1 dX3_findTwoMore_3 (by decide) ?_
      refine lv_icmp_ge (tgt := 93) X.1 X.2.1 dX3_findTwoMore_5 (by decide) (fun c1 => ?_) (fun c1 => ?_)
      · have hf := ite_t hf c1
        obtain ⟨rfl, rfl⟩ := z_inj2 hf
        exact z_vret X hr hlk hP hD hS dX3_findTwoMore_93
      · have hf := ite_f hf c1
        refine lv_aload_n X.1 X.2.1 dX3_findTwoMore_8 rfl (lv_at hl 0 rfl) ?_
        refine z_get X hK hP hiX3 19 rfl rfl 1 (by decide) (bw_in W4_20) rfl dX3_findTwoMore_9 ?_
        refine lv_iload_n X.1 X.2.1 dX3_findTwoMore_12 rfl (lv_at hl 1 rfl) ?_
        obtain ⟨r2, er2, hf⟩ := stp_e hf
        refine z_put (ws' := wbX2 K aH h0 ++ (wbX4 K (aH 0) aR r2 ++ (wbX3 K (aH 0) (aR 0) aP q2_P pL0))) X hK hP hD hS hiX4 tyX4_ok nmX4 9 rfl rfl 9 (by decide) (bw_in W26_23) rfl rfl rfl (Nat.le_of_ble_eq_true rfl) dX3_findTwoMore_13 (by rw [er2]; rfl) (fun H locs hP hD hS => ?_)
        refine lv_aload_n X.1 X.2.1 dX3_findTwoMore_16 rfl (lv_at hl 0 rfl) ?_
        refine z_get X hK hP hiX3 19 rfl rfl 1 (by decide) (bw_in W4_20) rfl dX3_findTwoMore_17 ?_
        refine lv_iload_n X.1 X.2.1 dX3_findTwoMore_20 rfl (lv_at hl 2 rfl) ?_
        obtain ⟨r3, hc4, hf⟩ := bd1_e hf
        refine z_V (n := 1) (As := [.int n2_1]) (rest := []) (ci := 4) (q0 := 9) X hK hN (kX4_goTo l D K aH aR h0 r2 _ n2_1 r3 hc4) (bw_V W27_21 W14_5 W14_6 W1_22 W14_7) rfl ⟨rfl, rfl⟩ (by decide +kernel) rfl ⟨Nat.le_of_ble_eq_true rfl, Nat.le_of_ble_eq_true rfl⟩ (hP.sub [0, 1, 2, 3, 4, 5, 6, 7, 8, 9, 10, 11, 12, 13, 14, 15, 16, 17, 18] rfl) (hD.sub [0, 1, 2, 3, 4, 5, 6, 7, 8, 9, 10, 11, 12, 13, 14, 15, 16, 17, 18] (by decide) rfl) rfl rfl (zj_sub (ws' := wbX2 K aH h0 ++ (wbX4 K (aH 0) aR r3 ++ (wbX3 K (aH 0) (aR 0) aP q2_P pL0))) hP hD hS hA [0, 1, 2, 3, 4, 5, 6, 7, 8, 9, 10, 11, 12, 13, 14, 15, 16, 17, 18] [19, 20, 21, 22] [4, 5, 6, 7, 8, 9, 10, 11, 12, 13, 14, 15, 16, 17, 18, 19, 20, 21, 22, 0, 1, 2, 3] rfl rfl (by decide) (by decide) (by decide) rfl) hS hl.1 rfl (Nat.le_of_ble_eq_true rfl) dX3_findTwoMore_21 ⟨Nat.zero_le _, Nat.zero_le _⟩ rfl (fun H locs hP hD hS => ?_)
        refine lv_aload_n X.1 X.2.1 dX3_findTwoMore_24 rfl (lv_at hl 0 rfl) ?_
        refine z_get X hK hP hiX3 19 rfl rfl 1 (by decide) (bw_in W4_20) rfl dX3_findTwoMore_25 ?_
        refine z_get X hK hP hiX4 9 rfl rfl 9 (by decide) (bw_in W26_23) rfl dX3_findTwoMore_28 ?_
        obtain ⟨w5, ew5, hf⟩ := stp_e hf
        refine z_top ew5 ?_
        refine lv_istore_n (lv' := [(3, .int w5), (0, .ref (aP 0)), (1, .int n2_0), (2, .int n2_1)]) X.1 X.2.1 dX3_findTwoMore_31 rfl hl (by decide) rfl (fun ls hl => ?_)
        refine lv_iconst (v := 0) X.1 X.2.1 dX3_findTwoMore_32 (by decide) ?_
        refine lv_istore (lv' := [(4, .int 0), (3, .int w5), (0, .ref (aP 0)), (1, .int n2_0), (2, .int n2_1)]) X.1 X.2.1 dX3_findTwoMore_33 hl (by decide) rfl (fun ls hl => ?_)
        exact L35_1 _ ih _ _ _ _ _ _ _ hf _ _ hP hD hS _ (lv_sub hl [2, 3, 4, 1, 0] rfl)
  rw [fX3_findTwoMore] at hf
  refine lv_iconst (v := 0) X.1 X.2.1 dX3_findTwoMore_0 (by decide) ?_
  refine lv_istore_n (lv' := [(2, .int 0), (0, .ref (aP 0)), (1, .int x1)]) X.1 X.2.1 dX3_findTwoMore_1 rfl hl (by decide) rfl (fun ls hl => ?_)
  exact L2_0  _ _ _ _ _ hf _ _ hP hD hS _ (lv_sub hl [1, 2, 0] rfl)
abbrev rmX3_findMore : Room := { frames := 4, cells := 0, slots := 0, locals := 99 }
set_option maxHeartbeats 4000000 in
set_option maxRecDepth 100000 in
theorem kX3_findMore (l : Launch) (D : va_G) (K : Nat → ClassId) (aH : Nat → Nat) (aR : Nat → Nat) (aP : Nat → Nat) (h0 : St) (r0 : St) (p0 : St) (pL0 : Lt) (sz : Nat)  (r_ : St) (p_ : St) (hf : fX3_findMore h0 r0 p0 pL0 = some (r_, p_)) : Met l yX3_findMore (bw (Cond.code yX3_findMore cX3_findMore 3 none)) rmX3_findMore (va_Pc [.ref (aP 0)] (zB D K sz (wbX2 K aH h0 ++ (wbX4 K (aH 0) aR r0 ++ (wbX3 K (aH 0) (aR 0) aP p0 pL0))))) (zQ (none) D (va_A (wbX2 K aH h0 ++ (wbX4 K (aH 0) aR r0 ++ (wbX3 K (aH 0) (aR 0) aP p0 pL0))) sz) (wbX2 K aH h0 ++ (wbX4 K (aH 0) aR r_ ++ (wbX3 K (aH 0) (aR 0) aP p_ pL0)))) 0 0 (va_A (wbX2 K aH h0 ++ (wbX4 K (aH 0) aR r0 ++ (wbX3 K (aH 0) (aR 0) aP p0 pL0))) sz) := by
  refine z_of (cc := cX3_findMore) (maxL := 3) (ret := none) (own := RX3) (lv := [(0, .ref (aP 0))]) (by decide) rfl rfl (Nat.le_of_ble_eq_true rfl) rfl ?_
  intro p e s m below meth c X hr hlk hK hN hsz hP hD hA hS hin ls hl
  generalize va_A (wbX2 K aH h0 ++ (wbX4 K (aH 0) aR r0 ++ (wbX3 K (aH 0) (aR 0) aP p0 pL0))) sz = A at hD hA hS hN ⊢
  have hiX3 : ∀ w ∈ u_ws RX3 TX3 7, w ∈ (bw (Cond.code yX3_findMore cX3_findMore 3 none)) := fun w h => bw_in (inlX3 w h)
  have hiX4 : ∀ w ∈ u_ws RX4 TX4 12, w ∈ (bw (Cond.code yX3_findMore cX3_findMore 3 none)) := fun w h => bw_in (inlX4 w h)
  have L77_0 : ∀ (n : Nat), ∀ (n77_0 : Int32) (n77_1 : Int32) (q77_R : St) (q77_P : St), fX3_findMore_77 h0 pL0 n n77_0 n77_1 q77_R q77_P = some ((r_, p_)) → ∀ (H : Heap) (locs : List Loc), va_P D vwCl (wbX2 K aH h0 ++ (wbX4 K (aH 0) aR q77_R ++ (wbX3 K (aH 0) (aR 0) aP q77_P pL0))) H → va_D A (wbX2 K aH h0 ++ (wbX4 K (aH 0) aR q77_R ++ (wbX3 K (aH 0) (aR 0) aP q77_P pL0))) → va_S A s.heap H locs → ∀ (ls : Array Slot), lv_has ls 3 [(0, .ref (aP 0)), (1, .int n77_0), (2, .int n77_1)] → W p l e rmX3_findMore s m ([.ref (aP 0)] : List Value).toArray below meth c H locs 0 0 (MQ below (zQ (none) D A (wbX2 K aH h0 ++ (wbX4 K (aH 0) aR r_ ++ (wbX3 K (aH 0) (aR 0) aP p_ pL0)))) ([.ref (aP 0)] : List Value).toArray s 0 0 A) (F0 m 77 ls []) := by
    intro n
    induction n with
    | zero =>
      intro n77_0 n77_1 q77_R q77_P hf
      rw [fX3_findMore_77] at hf
      cases hf
    | succ n ih =>
      intro n77_0 n77_1 q77_R q77_P hf H locs hP hD hS ls hl
      rw [fX3_findMore_77] at hf
      refine lv_iload_n X.1 X.2.1 dX3_findMore_77 rfl (lv_at hl 2 rfl) ?_
      refine lv_bipush (v := 10) X.1 X.2.1 dX3_findMore_78 (by decide) ?_
      refine lv_icmp_ge (tgt := 126) X.1 X.2.1 dX3_findMore_80 (by decide) (fun c16 => ?_) (fun c16 => ?_)
      · have hf := ite_t hf c16
        refine lv_aload_n X.1 X.2.1 dX3_findMore_126 rfl (lv_at hl 0 rfl) ?_
        refine lv_iload_n X.1 X.2.1 dX3_findMore_127 rfl (lv_at hl 1 rfl) ?_
        obtain ⟨r17, p18, hc19, hf⟩ := bd2_e hf
        refine z_V (n := 1) (As := [.int n77_0]) (rest := []) (ci := 3) (q0 := 19) X hK hN (kX3_findTwoMore l D K aH aR aP h0 q77_R q77_P pL0 _ n77_0 r17 p18 hc19) (bw_V W27_22 W27_23 W28_0 W2_3 W28_1) rfl ⟨rfl, rfl⟩ (by decide +kernel) rfl ⟨Nat.le_of_ble_eq_true rfl, Nat.le_of_ble_eq_true rfl⟩ hP hD rfl rfl (zj_same hD hS hA) hS hl.1 rfl (Nat.le_of_ble_eq_true rfl) dX3_findMore_128 ⟨Nat.zero_le _, Nat.zero_le _⟩ rfl (fun H locs hP hD hS => ?_)
        obtain ⟨rfl, rfl⟩ := z_inj2 hf
        exact z_vret X hr hlk hP hD hS dX3_findMore_131
      · have hf := ite_f hf c16
        refine lv_aload_n X.1 X.2.1 dX3_findMore_83 rfl (lv_at hl 0 rfl) ?_
        refine z_get X hK hP hiX3 19 rfl rfl 1 (by decide) (bw_in W4_20) rfl dX3_findMore_84 ?_
        refine lv_iload_n X.1 X.2.1 dX3_findMore_87 rfl (lv_at hl 1 rfl) ?_
        obtain ⟨r20, er20, hf⟩ := stp_e hf
        refine z_put (ws' := wbX2 K aH h0 ++ (wbX4 K (aH 0) aR r20 ++ (wbX3 K (aH 0) (aR 0) aP q77_P pL0))) X hK hP hD hS hiX4 tyX4_ok nmX4 9 rfl rfl 9 (by decide) (bw_in W26_23) rfl rfl rfl (Nat.le_of_ble_eq_true rfl) dX3_findMore_88 (by rw [er20]; rfl) (fun H locs hP hD hS => ?_)
        refine lv_aload_n X.1 X.2.1 dX3_findMore_91 rfl (lv_at hl 0 rfl) ?_
        refine z_get X hK hP hiX3 19 rfl rfl 1 (by decide) (bw_in W4_20) rfl dX3_findMore_92 ?_
        refine lv_iload_n X.1 X.2.1 dX3_findMore_95 rfl (lv_at hl 2 rfl) ?_
        obtain ⟨r21, hc22, hf⟩ := bd1_e hf
        refine z_V (n := 1) (As := [.int n77_1]) (rest := []) (ci := 4) (q0 := 9) X hK hN (kX4_goTo l D K aH aR h0 r20 _ n77_1 r21 hc22) (bw_V W27_21 W14_5 W14_6 W1_22 W14_7) rfl ⟨rfl, rfl⟩ (by decide +kernel) rfl ⟨Nat.le_of_ble_eq_true rfl, Nat.le_of_ble_eq_true rfl⟩ (hP.sub [0, 1, 2, 3, 4, 5, 6, 7, 8, 9, 10, 11, 12, 13, 14, 15, 16, 17, 18] rfl) (hD.sub [0, 1, 2, 3, 4, 5, 6, 7, 8, 9, 10, 11, 12, 13, 14, 15, 16, 17, 18] (by decide) rfl) rfl rfl (zj_sub (ws' := wbX2 K aH h0 ++ (wbX4 K (aH 0) aR r21 ++ (wbX3 K (aH 0) (aR 0) aP q77_P pL0))) hP hD hS hA [0, 1, 2, 3, 4, 5, 6, 7, 8, 9, 10, 11, 12, 13, 14, 15, 16, 17, 18] [19, 20, 21, 22] [4, 5, 6, 7, 8, 9, 10, 11, 12, 13, 14, 15, 16, 17, 18, 19, 20, 21, 22, 0, 1, 2, 3] rfl rfl (by decide) (by decide) (by decide) rfl) hS hl.1 rfl (Nat.le_of_ble_eq_true rfl) dX3_findMore_96 ⟨Nat.zero_le _, Nat.zero_le _⟩ rfl (fun H locs hP hD hS => ?_)
        refine lv_aload_n X.1 X.2.1 dX3_findMore_99 rfl (lv_at hl 0 rfl) ?_
        refine z_get X hK hP hiX3 19 rfl rfl 1 (by decide) (bw_in W4_20) rfl dX3_findMore_100 ?_
        obtain ⟨r23, hc24, hf⟩ := bd1_e hf
        refine z_V (n := 0) (As := []) (rest := []) (ci := 4) (q0 := 9) X hK hN (kX4_allArrived l D K aH aR h0 r21 _ r23 hc24) (bw_V W27_6 W27_7 W27_8 W1_22 W27_9) rfl ⟨rfl, rfl⟩ (by decide +kernel) rfl ⟨Nat.le_of_ble_eq_true rfl, Nat.le_of_ble_eq_true rfl⟩ (hP.sub [0, 1, 2, 3, 4, 5, 6, 7, 8, 9, 10, 11, 12, 13, 14, 15, 16, 17, 18] rfl) (hD.sub [0, 1, 2, 3, 4, 5, 6, 7, 8, 9, 10, 11, 12, 13, 14, 15, 16, 17, 18] (by decide) rfl) rfl rfl (zj_sub (ws' := wbX2 K aH h0 ++ (wbX4 K (aH 0) aR r21 ++ (wbX3 K (aH 0) (aR 0) aP q77_P pL0))) hP hD hS hA [0, 1, 2, 3, 4, 5, 6, 7, 8, 9, 10, 11, 12, 13, 14, 15, 16, 17, 18] [19, 20, 21, 22] [4, 5, 6, 7, 8, 9, 10, 11, 12, 13, 14, 15, 16, 17, 18, 19, 20, 21, 22, 0, 1, 2, 3] rfl rfl (by decide) (by decide) (by decide) rfl) hS hl.1 rfl (Nat.le_of_ble_eq_true rfl) dX3_findMore_103 ⟨Nat.zero_le _, Nat.zero_le _⟩ rfl (fun H locs hP hD hS => ?_)
        refine lv_if_eq (tgt := 120) X.1 X.2.1 dX3_findMore_106 (by decide) (fun c25 => ?_) (fun c25 => ?_)
        · have hf := ite_t hf c25
          obtain ⟨w26, ew26, hf⟩ := stp_e hf
          refine lv_iinc (v := w26) (lv' := [(2, .int w26), (0, .ref (aP 0)), (1, .int n77_0)]) X.1 X.2.1 dX3_findMore_120 hl (k := 2) rfl (by rw [ew26]; rfl) (by decide) rfl (fun ls hl => ?_)
          refine lv_goto (tgt := 77) X.1 X.2.1 dX3_findMore_123 (by decide) ?_
          exact ih _ _ _ _ hf _ _ hP hD hS _ (lv_sub hl [1, 2, 0] rfl)
        · have hf := ite_f hf c25
          refine lv_aload_n X.1 X.2.1 dX3_findMore_109 rfl (lv_at hl 0 rfl) ?_
          refine z_get X hK hP hiX3 19 rfl rfl 3 (by decide) (bw_in W4_14) rfl dX3_findMore_110 ?_
          refine lv_iconst (v := 1) X.1 X.2.1 dX3_findMore_113 (by decide) ?_
          refine lv_iload_n X.1 X.2.1 dX3_findMore_114 rfl (lv_at hl 2 rfl) ?_
          refine lv_iconst (v := -1) X.1 X.2.1 dX3_findMore_115 (by decide) ?_
          obtain ⟨a27, hc28, hf⟩ := bd1_e hf
          obtain ⟨p29, ep29, hf⟩ := stp_e hf
          refine z_S (n := 4) (As := [.ref (aP 4), .int 1, .int n77_1, .int ((-1))]) (rest := []) X hK hN (kX3_note l D K (aP 4) 3 (q77_P 4) _ 1 n77_1 ((-1)) a27 hc28) (bw_S W27_0 W27_1 W2_3 W27_2) rfl ⟨rfl, rfl⟩ (by decide +kernel) rfl ⟨Nat.le_of_ble_eq_true rfl, Nat.le_of_ble_eq_true rfl⟩ (hP.sub [20] rfl) (hD.sub [20] (by decide) rfl) (zj_sub (ws' := wbX2 K aH h0 ++ (wbX4 K (aH 0) aR r21 ++ (wbX3 K (aH 0) (aR 0) aP p29 pL0))) hP hD hS hA [20] [0, 1, 2, 3, 4, 5, 6, 7, 8, 9, 10, 11, 12, 13, 14, 15, 16, 17, 18, 19, 21, 22] [0, 1, 2, 3, 4, 5, 6, 7, 8, 9, 10, 11, 12, 13, 14, 15, 16, 17, 18, 19, 22, 20, 21] rfl rfl (by decide) (by decide) (by decide) (by rw [ep29]; rfl)) hS hl.1 rfl (Nat.le_of_ble_eq_true rfl) dX3_findMore_116 ⟨Nat.zero_le _, Nat.zero_le _⟩ rfl (fun H locs hP hD hS => ?_)
          obtain ⟨rfl, rfl⟩ := z_inj2 hf
          exact z_vret X hr hlk hP hD hS dX3_findMore_119
  rw [fX3_findMore] at hf
  refine lv_aload_n X.1 X.2.1 dX3_findMore_0 rfl (lv_at hl 0 rfl) ?_
  refine z_get X hK hP hiX3 19 rfl rfl 2 (by decide) (bw_in W4_13) rfl dX3_findMore_1 ?_
  refine lv_if_eq (tgt := 8) X.1 X.2.1 dX3_findMore_4 (by decide) (fun c1 => ?_) (fun c1 => ?_)
  · have hf := ite_t hf c1
    refine lv_aload_n X.1 X.2.1 dX3_findMore_8 rfl (lv_at hl 0 rfl) ?_
    refine lv_iconst (v := 1) X.1 X.2.1 dX3_findMore_9 (by decide) ?_
    obtain ⟨p2, ep2, hf⟩ := stp_e hf
    refine z_put (ws' := wbX2 K aH h0 ++ (wbX4 K (aH 0) aR r0 ++ (wbX3 K (aH 0) (aR 0) aP p2 pL0))) X hK hP hD hS hiX3 tyX3_ok nmX3 19 rfl rfl 2 (by decide) (bw_in W4_13) rfl (by decide) (by decide) (Nat.le_of_ble_eq_true rfl) dX3_findMore_10 (by rw [ep2]; rfl) (fun H locs hP hD hS => ?_)
    refine lv_aload_n X.1 X.2.1 dX3_findMore_13 rfl (lv_at hl 0 rfl) ?_
    refine z_get X hK hP hiX3 19 rfl rfl 3 (by decide) (bw_in W4_14) rfl dX3_findMore_14 ?_
    refine lv_iconst (v := -1) X.1 X.2.1 dX3_findMore_17 (by decide) ?_
    refine lv_iconst (v := -1) X.1 X.2.1 dX3_findMore_18 (by decide) ?_
    refine lv_iconst (v := -1) X.1 X.2.1 dX3_findMore_19 (by decide) ?_
    obtain ⟨a3, hc4, hf⟩ := bd1_e hf
    obtain ⟨p5, ep5, hf⟩ := stp_e hf
    refine z_S (n := 4) (As := [.ref (aP 4), .int ((-1)), .int ((-1)), .int ((-1))]) (rest := []) X hK hN (kX3_note l D K (aP 4) 3 (p2 4) _ ((-1)) ((-1)) ((-1)) a3 hc4) (bw_S W27_0 W27_1 W2_3 W27_2) rfl ⟨rfl, rfl⟩ (by decide +kernel) rfl ⟨Nat.le_of_ble_eq_true rfl, Nat.le_of_ble_eq_true rfl⟩ (hP.sub [20] rfl) (hD.sub [20] (by decide) rfl) (zj_sub (ws' := wbX2 K aH h0 ++ (wbX4 K (aH 0) aR r0 ++ (wbX3 K (aH 0) (aR 0) aP p5 pL0))) hP hD hS hA [20] [0, 1, 2, 3, 4, 5, 6, 7, 8, 9, 10, 11, 12, 13, 14, 15, 16, 17, 18, 19, 21, 22] [0, 1, 2, 3, 4, 5, 6, 7, 8, 9, 10, 11, 12, 13, 14, 15, 16, 17, 18, 19, 22, 20, 21] rfl rfl (by decide) (by decide) (by decide) (by rw [ep5]; rfl)) hS hl.1 rfl (Nat.le_of_ble_eq_true rfl) dX3_findMore_20 ⟨Nat.zero_le _, Nat.zero_le _⟩ rfl (fun H locs hP hD hS => ?_)
    refine lv_aload_n X.1 X.2.1 dX3_findMore_23 rfl (lv_at hl 0 rfl) ?_
    refine z_get X hK hP hiX3 19 rfl rfl 1 (by decide) (bw_in W4_20) rfl dX3_findMore_24 ?_
    refine lv_aload_n X.1 X.2.1 dX3_findMore_27 rfl (lv_at hl 0 rfl) ?_
    refine z_get X hK hP hiX3 19 rfl rfl 0 (by decide) (bw_in W4_19) rfl dX3_findMore_28 ?_
    obtain ⟨r6, hc7, hf⟩ := bd1_e hf
    refine z_V (n := 0) (As := []) (rest := [.ref (aR 0)]) (ci := 2) (q0 := 0) X hK hN (kX2_allLeavers l D K aH h0 _ r6 hc7) (bw_V W27_3 W13_4 W13_5 W1_18 W13_6) rfl ⟨rfl, rfl⟩ (by decide +kernel) rfl ⟨Nat.le_of_ble_eq_true rfl, Nat.le_of_ble_eq_true rfl⟩ (hP.sub [0, 1, 2, 3, 4, 5, 6, 7, 8] rfl) (hD.sub [0, 1, 2, 3, 4, 5, 6, 7, 8] (by decide) rfl) rfl rfl (zj_sub (ws' := wbX2 K aH h0 ++ (wbX4 K (aH 0) aR r0 ++ (wbX3 K (aH 0) (aR 0) aP p5 pL0))) hP hD hS hA [0, 1, 2, 3, 4, 5, 6, 7, 8] [9, 10, 11, 12, 13, 14, 15, 16, 17, 18, 19, 20, 21, 22] [14, 15, 16, 17, 18, 19, 20, 21, 22, 0, 1, 2, 3, 4, 5, 6, 7, 8, 9, 10, 11, 12, 13] rfl rfl (by decide) (by decide) (by decide) rfl) hS hl.1 rfl (Nat.le_of_ble_eq_true rfl) dX3_findMore_31 ⟨Nat.zero_le _, Nat.zero_le _⟩ rfl (fun H locs hP hD hS => ?_)
    obtain ⟨r8, hc9, hf⟩ := bd1_e hf
    refine z_V (n := 1) (As := [.int r6]) (rest := []) (ci := 4) (q0 := 9) X hK hN (kX4_begin l D K aH aR h0 r0 _ r6 r8 hc9) (bw_V W27_4 W13_8 W13_9 W1_22 W13_10) rfl ⟨rfl, rfl⟩ (by decide +kernel) rfl ⟨Nat.le_of_ble_eq_true rfl, Nat.le_of_ble_eq_true rfl⟩ (hP.sub [0, 1, 2, 3, 4, 5, 6, 7, 8, 9, 10, 11, 12, 13, 14, 15, 16, 17, 18] rfl) (hD.sub [0, 1, 2, 3, 4, 5, 6, 7, 8, 9, 10, 11, 12, 13, 14, 15, 16, 17, 18] (by decide) rfl) rfl rfl (zj_sub (ws' := wbX2 K aH h0 ++ (wbX4 K (aH 0) aR r8 ++ (wbX3 K (aH 0) (aR 0) aP p5 pL0))) hP hD hS hA [0, 1, 2, 3, 4, 5, 6, 7, 8, 9, 10, 11, 12, 13, 14, 15, 16, 17, 18] [19, 20, 21, 22] [4, 5, 6, 7, 8, 9, 10, 11, 12, 13, 14, 15, 16, 17, 18, 19, 20, 21, 22, 0, 1, 2, 3] rfl rfl (by decide) (by decide) (by decide) rfl) hS hl.1 rfl (Nat.le_of_ble_eq_true rfl) dX3_findMore_34 ⟨Nat.zero_le _, Nat.zero_le _⟩ rfl (fun H locs hP hD hS => ?_)
    refine lv_aload_n X.1 X.2.1 dX3_findMore_37 rfl (lv_at hl 0 rfl) ?_
    refine z_get X hK hP hiX3 19 rfl rfl 1 (by decide) (bw_in W4_20) rfl dX3_findMore_38 ?_
    refine lv_iconst (v := -1) X.1 X.2.1 dX3_findMore_41 (by decide) ?_
    refine lv_iconst (v := -1) X.1 X.2.1 dX3_findMore_42 (by decide) ?_
    obtain ⟨r10, hc11, hf⟩ := bd1_e hf
    refine z_V (n := 2) (As := [.int ((-1)), .int ((-1))]) (rest := []) (ci := 4) (q0 := 9) X hK hN (kX4_goToStops l D K aH aR h0 r8 _ ((-1)) ((-1)) r10 hc11) (bw_V W27_5 W13_23 W14_0 W1_22 W14_1) rfl ⟨rfl, rfl⟩ (by decide +kernel) rfl ⟨Nat.le_of_ble_eq_true rfl, Nat.le_of_ble_eq_true rfl⟩ (hP.sub [0, 1, 2, 3, 4, 5, 6, 7, 8, 9, 10, 11, 12, 13, 14, 15, 16, 17, 18] rfl) (hD.sub [0, 1, 2, 3, 4, 5, 6, 7, 8, 9, 10, 11, 12, 13, 14, 15, 16, 17, 18] (by decide) rfl) rfl rfl (zj_sub (ws' := wbX2 K aH h0 ++ (wbX4 K (aH 0) aR r10 ++ (wbX3 K (aH 0) (aR 0) aP p5 pL0))) hP hD hS hA [0, 1, 2, 3, 4, 5, 6, 7, 8, 9, 10, 11, 12, 13, 14, 15, 16, 17, 18] [19, 20, 21, 22] [4, 5, 6, 7, 8, 9, 10, 11, 12, 13, 14, 15, 16, 17, 18, 19, 20, 21, 22, 0, 1, 2, 3] rfl rfl (by decide) (by decide) (by decide) rfl) hS hl.1 rfl (Nat.le_of_ble_eq_true rfl) dX3_findMore_43 ⟨Nat.zero_le _, Nat.zero_le _⟩ rfl (fun H locs hP hD hS => ?_)
    refine lv_aload_n X.1 X.2.1 dX3_findMore_46 rfl (lv_at hl 0 rfl) ?_
    refine z_get X hK hP hiX3 19 rfl rfl 1 (by decide) (bw_in W4_20) rfl dX3_findMore_47 ?_
    obtain ⟨r12, hc13, hf⟩ := bd1_e hf
    refine z_V (n := 0) (As := []) (rest := []) (ci := 4) (q0 := 9) X hK hN (kX4_allArrived l D K aH aR h0 r10 _ r12 hc13) (bw_V W27_6 W27_7 W27_8 W1_22 W27_9) rfl ⟨rfl, rfl⟩ (by decide +kernel) rfl ⟨Nat.le_of_ble_eq_true rfl, Nat.le_of_ble_eq_true rfl⟩ (hP.sub [0, 1, 2, 3, 4, 5, 6, 7, 8, 9, 10, 11, 12, 13, 14, 15, 16, 17, 18] rfl) (hD.sub [0, 1, 2, 3, 4, 5, 6, 7, 8, 9, 10, 11, 12, 13, 14, 15, 16, 17, 18] (by decide) rfl) rfl rfl (zj_sub (ws' := wbX2 K aH h0 ++ (wbX4 K (aH 0) aR r10 ++ (wbX3 K (aH 0) (aR 0) aP p5 pL0))) hP hD hS hA [0, 1, 2, 3, 4, 5, 6, 7, 8, 9, 10, 11, 12, 13, 14, 15, 16, 17, 18] [19, 20, 21, 22] [4, 5, 6, 7, 8, 9, 10, 11, 12, 13, 14, 15, 16, 17, 18, 19, 20, 21, 22, 0, 1, 2, 3] rfl rfl (by decide) (by decide) (by decide) rfl) hS hl.1 rfl (Nat.le_of_ble_eq_true rfl) dX3_findMore_50 ⟨Nat.zero_le _, Nat.zero_le _⟩ rfl (fun H locs hP hD hS => ?_)
    refine lv_if_eq (tgt := 67) X.1 X.2.1 dX3_findMore_53 (by decide) (fun c14 => ?_) (fun c14 => ?_)
    · have hf := ite_t hf c14
      refine lv_aload_n X.1 X.2.1 dX3_findMore_67 rfl (lv_at hl 0 rfl) ?_
      refine z_get X hK hP hiX3 19 rfl rfl 1 (by decide) (bw_in W4_20) rfl dX3_findMore_68 ?_
      refine z_get X hK hP hiX4 9 rfl rfl 9 (by decide) (bw_in W26_23) rfl dX3_findMore_71 ?_
      obtain ⟨w15, ew15, hf⟩ := stp_e hf
      refine z_top ew15 ?_
      refine lv_istore_n (lv' := [(1, .int w15), (0, .ref (aP 0))]) X.1 X.2.1 dX3_findMore_74 rfl hl (by decide) rfl (fun ls hl => ?_)
      refine lv_iconst (v := 0) X.1 X.2.1 dX3_findMore_75 (by decide) ?_
      refine lv_istore_n (lv' := [(2, .int 0), (1, .int w15), (0, .ref (aP 0))]) X.1 X.2.1 dX3_findMore_76 rfl hl (by decide) rfl (fun ls hl => ?_)
      exact L77_0  _ _ _ _ _ hf _ _ hP hD hS _ (lv_sub hl [2, 1, 0] rfl)
    · have hf := ite_f hf c14
      refine lv_aload_n X.1 X.2.1 dX3_findMore_56 rfl (lv_at hl 0 rfl) ?_
      refine z_get X hK hP hiX3 19 rfl rfl 3 (by decide) (bw_in W4_14) rfl dX3_findMore_57 ?_
      refine lv_iconst (v := 0) X.1 X.2.1 dX3_findMore_60 (by decide) ?_
      refine lv_iconst (v := -1) X.1 X.2.1 dX3_findMore_61 (by decide) ?_
      refine lv_iconst (v := -1) X.1 X.2.1 dX3_findMore_62 (by decide) ?_
      obtain ⟨a30, hc31, hf⟩ := bd1_e hf
      obtain ⟨p32, ep32, hf⟩ := stp_e hf
      refine z_S (n := 4) (As := [.ref (aP 4), .int 0, .int ((-1)), .int ((-1))]) (rest := []) X hK hN (kX3_note l D K (aP 4) 3 (p5 4) _ 0 ((-1)) ((-1)) a30 hc31) (bw_S W27_0 W27_1 W2_3 W27_2) rfl ⟨rfl, rfl⟩ (by decide +kernel) rfl ⟨Nat.le_of_ble_eq_true rfl, Nat.le_of_ble_eq_true rfl⟩ (hP.sub [20] rfl) (hD.sub [20] (by decide) rfl) (zj_sub (ws' := wbX2 K aH h0 ++ (wbX4 K (aH 0) aR r10 ++ (wbX3 K (aH 0) (aR 0) aP p32 pL0))) hP hD hS hA [20] [0, 1, 2, 3, 4, 5, 6, 7, 8, 9, 10, 11, 12, 13, 14, 15, 16, 17, 18, 19, 21, 22] [0, 1, 2, 3, 4, 5, 6, 7, 8, 9, 10, 11, 12, 13, 14, 15, 16, 17, 18, 19, 22, 20, 21] rfl rfl (by decide) (by decide) (by decide) (by rw [ep32]; rfl)) hS hl.1 rfl (Nat.le_of_ble_eq_true rfl) dX3_findMore_63 ⟨Nat.zero_le _, Nat.zero_le _⟩ rfl (fun H locs hP hD hS => ?_)
      obtain ⟨rfl, rfl⟩ := z_inj2 hf
      exact z_vret X hr hlk hP hD hS dX3_findMore_66
  · have hf := ite_f hf c1
    obtain ⟨rfl, rfl⟩ := z_inj2 hf
    exact z_vret X hr hlk hP hD hS dX3_findMore_7
abbrev rmX3_silent : Room := { frames := 4, cells := 0, slots := 0, locals := 98 }
set_option maxHeartbeats 4000000 in
set_option maxRecDepth 100000 in
theorem kX3_silent (l : Launch) (D : va_G) (K : Nat → ClassId) (aH : Nat → Nat) (aR : Nat → Nat) (aP : Nat → Nat) (h0 : St) (r0 : St) (p0 : St) (pL0 : Lt) (sz : Nat) (x1 : Int32) (x2 : Int32) (x3 : Int32) (x4 : Int32) (q_ : Int32) (r_ : St) (p_ : St) (pL_ : Lt) (hf : fX3_silent h0 r0 p0 pL0 x1 x2 x3 x4 = some (q_, r_, p_, pL_)) : Met l yX3_silent (bw (Cond.code yX3_silent cX3_silent 5 (some .boolean))) rmX3_silent (va_Pc [.ref (aP 0), .int x1, .int x2, .int x3, .int x4] (zB D K sz (wbX2 K aH h0 ++ (wbX4 K (aH 0) aR r0 ++ (wbX3 K (aH 0) (aR 0) aP p0 pL0))))) (zQ (some (.int q_)) D (va_A (wbX2 K aH h0 ++ (wbX4 K (aH 0) aR r0 ++ (wbX3 K (aH 0) (aR 0) aP p0 pL0))) sz) (wbX2 K aH h0 ++ (wbX4 K (aH 0) aR r_ ++ (wbX3 K (aH 0) (aR 0) aP p_ pL_)))) 0 0 (va_A (wbX2 K aH h0 ++ (wbX4 K (aH 0) aR r0 ++ (wbX3 K (aH 0) (aR 0) aP p0 pL0))) sz) := by
  refine z_of (cc := cX3_silent) (maxL := 5) (ret := (some .boolean)) (own := RX3) (lv := [(0, .ref (aP 0)), (1, .int x1), (2, .int x2), (3, .int x3), (4, .int x4)]) (by decide) rfl rfl (Nat.le_of_ble_eq_true rfl) rfl ?_
  intro p e s m below meth c X hr hlk hK hN hsz hP hD hA hS hin ls hl
  generalize va_A (wbX2 K aH h0 ++ (wbX4 K (aH 0) aR r0 ++ (wbX3 K (aH 0) (aR 0) aP p0 pL0))) sz = A at hD hA hS hN ⊢
  have hiX3 : ∀ w ∈ u_ws RX3 TX3 7, w ∈ (bw (Cond.code yX3_silent cX3_silent 5 (some .boolean))) := fun w h => bw_in (inlX3 w h)
  rw [fX3_silent] at hf
  refine lv_iload_n X.1 X.2.1 dX3_silent_0 rfl (lv_at hl 1 rfl) ?_
  refine lv_if_lt (tgt := 11) X.1 X.2.1 dX3_silent_1 (by decide) (fun c1 => ?_) (fun c1 => ?_)
  · have hf := ite_t hf c1
    refine lv_iconst (v := 0) X.1 X.2.1 dX3_silent_11 (by decide) ?_
    obtain ⟨rfl, rfl, rfl, rfl⟩ := z_inj4 hf
    exact z_zret X hr hlk (by decide) hP hD hS dX3_silent_12
  · have hf := ite_f hf c1
    refine lv_iload_n X.1 X.2.1 dX3_silent_4 rfl (lv_at hl 1 rfl) ?_
    refine lv_sipush (v := 211) X.1 X.2.1 dX3_silent_5 (by decide) ?_
    refine lv_icmp_lt (tgt := 13) X.1 X.2.1 dX3_silent_8 (by decide) (fun c2 => ?_) (fun c2 => ?_)
    · have hf := ite_t hf c2
      refine lv_iload_n X.1 X.2.1 dX3_silent_13 rfl (lv_at hl 1 rfl) ?_
      refine lv_aload_n X.1 X.2.1 dX3_silent_14 rfl (lv_at hl 0 rfl) ?_
      refine z_get X hK hP hiX3 19 rfl rfl 6 (by decide) (bw_in W4_18) rfl dX3_silent_15 ?_
      refine lv_icmp_lt (tgt := 65) X.1 X.2.1 dX3_silent_18 (by decide) (fun c3 => ?_) (fun c3 => ?_)
      · have hf := ite_t hf c3
        refine lv_aload_n X.1 X.2.1 dX3_silent_65 rfl (lv_at hl 0 rfl) ?_
        refine z_get X hK hP hiX3 19 rfl rfl 5 (by decide) (bw_in W4_17) rfl dX3_silent_66 ?_
        refine lv_iload_n X.1 X.2.1 dX3_silent_69 rfl (lv_at hl 1 rfl) ?_
        obtain ⟨hi5, hf⟩ := chk_e hf
        obtain ⟨v4, ev4, hf⟩ := stp_e hf
        refine z_lald X hK hP 22 rfl hi5 ev4 dX3_silent_70 ?_
        refine lv_iload_n X.1 X.2.1 dX3_silent_71 rfl (lv_at hl 2 rfl) ?_
        refine lv_lushr X.1 X.2.1 dX3_silent_72 rfl ?_
        refine lv_lconst (v := 1) X.1 X.2.1 dX3_silent_73 rfl ?_
        refine lv_land X.1 X.2.1 dX3_silent_74 ?_
        refine lv_lconst (v := 0) X.1 X.2.1 dX3_silent_75 rfl ?_
        refine W.lcmp X.1 X.2.1 dX3_silent_76 ?_
        refine lv_if_ne (tgt := 84) X.1 X.2.1 dX3_silent_77 (by decide) (fun c6 => ?_) (fun c6 => ?_)
        · have hf := ite_f hf c6
          refine lv_iconst (v := 0) X.1 X.2.1 dX3_silent_84 (by decide) ?_
          obtain ⟨rfl, rfl, rfl, rfl⟩ := z_inj4 hf
          exact z_zret X hr hlk (by decide) hP hD hS dX3_silent_85
        · have hf := ite_t hf c6
          refine lv_iconst (v := 1) X.1 X.2.1 dX3_silent_80 (by decide) ?_
          refine lv_goto (tgt := 85) X.1 X.2.1 dX3_silent_81 (by decide) ?_
          obtain ⟨rfl, rfl, rfl, rfl⟩ := z_inj4 hf
          exact z_zret X hr hlk (by decide) hP hD hS dX3_silent_85
      · have hf := ite_f hf c3
        refine lv_aload_n X.1 X.2.1 dX3_silent_21 rfl (lv_at hl 0 rfl) ?_
        refine z_get X hK hP hiX3 19 rfl rfl 1 (by decide) (bw_in W4_20) rfl dX3_silent_22 ?_
        refine lv_aload_n X.1 X.2.1 dX3_silent_25 rfl (lv_at hl 0 rfl) ?_
        refine z_get X hK hP hiX3 19 rfl rfl 0 (by decide) (bw_in W4_19) rfl dX3_silent_26 ?_
        obtain ⟨r7, hc8, hf⟩ := bd1_e hf
        refine z_V (n := 0) (As := []) (rest := [.ref (aR 0)]) (ci := 2) (q0 := 0) X hK hN (kX2_allLeavers l D K aH h0 _ r7 hc8) (bw_V W27_3 W13_4 W13_5 W1_18 W13_6) rfl ⟨rfl, rfl⟩ (by decide +kernel) rfl ⟨Nat.le_of_ble_eq_true rfl, Nat.le_of_ble_eq_true rfl⟩ (hP.sub [0, 1, 2, 3, 4, 5, 6, 7, 8] rfl) (hD.sub [0, 1, 2, 3, 4, 5, 6, 7, 8] (by decide) rfl) rfl rfl (zj_sub (ws' := wbX2 K aH h0 ++ (wbX4 K (aH 0) aR r0 ++ (wbX3 K (aH 0) (aR 0) aP p0 pL0))) hP hD hS hA [0, 1, 2, 3, 4, 5, 6, 7, 8] [9, 10, 11, 12, 13, 14, 15, 16, 17, 18, 19, 20, 21, 22] [14, 15, 16, 17, 18, 19, 20, 21, 22, 0, 1, 2, 3, 4, 5, 6, 7, 8, 9, 10, 11, 12, 13] rfl rfl (by decide) (by decide) (by decide) rfl) hS hl.1 rfl (Nat.le_of_ble_eq_true rfl) dX3_silent_29 ⟨Nat.zero_le _, Nat.zero_le _⟩ rfl (fun H locs hP hD hS => ?_)
        obtain ⟨r9, hc10, hf⟩ := bd1_e hf
        refine z_V (n := 1) (As := [.int r7]) (rest := []) (ci := 4) (q0 := 9) X hK hN (kX4_begin l D K aH aR h0 r0 _ r7 r9 hc10) (bw_V W27_4 W13_8 W13_9 W1_22 W13_10) rfl ⟨rfl, rfl⟩ (by decide +kernel) rfl ⟨Nat.le_of_ble_eq_true rfl, Nat.le_of_ble_eq_true rfl⟩ (hP.sub [0, 1, 2, 3, 4, 5, 6, 7, 8, 9, 10, 11, 12, 13, 14, 15, 16, 17, 18] rfl) (hD.sub [0, 1, 2, 3, 4, 5, 6, 7, 8, 9, 10, 11, 12, 13, 14, 15, 16, 17, 18] (by decide) rfl) rfl rfl (zj_sub (ws' := wbX2 K aH h0 ++ (wbX4 K (aH 0) aR r9 ++ (wbX3 K (aH 0) (aR 0) aP p0 pL0))) hP hD hS hA [0, 1, 2, 3, 4, 5, 6, 7, 8, 9, 10, 11, 12, 13, 14, 15, 16, 17, 18] [19, 20, 21, 22] [4, 5, 6, 7, 8, 9, 10, 11, 12, 13, 14, 15, 16, 17, 18, 19, 20, 21, 22, 0, 1, 2, 3] rfl rfl (by decide) (by decide) (by decide) rfl) hS hl.1 rfl (Nat.le_of_ble_eq_true rfl) dX3_silent_32 ⟨Nat.zero_le _, Nat.zero_le _⟩ rfl (fun H locs hP hD hS => ?_)
        refine lv_aload_n X.1 X.2.1 dX3_silent_35 rfl (lv_at hl 0 rfl) ?_
        refine z_get X hK hP hiX3 19 rfl rfl 1 (by decide) (bw_in W4_20) rfl dX3_silent_36 ?_
        refine lv_iload_n X.1 X.2.1 dX3_silent_39 rfl (lv_at hl 3 rfl) ?_
        refine lv_iload X.1 X.2.1 dX3_silent_40 (lv_at hl 4 rfl) ?_
        obtain ⟨r11, hc12, hf⟩ := bd1_e hf
        refine z_V (n := 2) (As := [.int x3, .int x4]) (rest := []) (ci := 4) (q0 := 9) X hK hN (kX4_goToStops l D K aH aR h0 r9 _ x3 x4 r11 hc12) (bw_V W27_5 W13_23 W14_0 W1_22 W14_1) rfl ⟨rfl, rfl⟩ (by decide +kernel) rfl ⟨Nat.le_of_ble_eq_true rfl, Nat.le_of_ble_eq_true rfl⟩ (hP.sub [0, 1, 2, 3, 4, 5, 6, 7, 8, 9, 10, 11, 12, 13, 14, 15, 16, 17, 18] rfl) (hD.sub [0, 1, 2, 3, 4, 5, 6, 7, 8, 9, 10, 11, 12, 13, 14, 15, 16, 17, 18] (by decide) rfl) rfl rfl (zj_sub (ws' := wbX2 K aH h0 ++ (wbX4 K (aH 0) aR r11 ++ (wbX3 K (aH 0) (aR 0) aP p0 pL0))) hP hD hS hA [0, 1, 2, 3, 4, 5, 6, 7, 8, 9, 10, 11, 12, 13, 14, 15, 16, 17, 18] [19, 20, 21, 22] [4, 5, 6, 7, 8, 9, 10, 11, 12, 13, 14, 15, 16, 17, 18, 19, 20, 21, 22, 0, 1, 2, 3] rfl rfl (by decide) (by decide) (by decide) rfl) hS hl.1 rfl (Nat.le_of_ble_eq_true rfl) dX3_silent_42 ⟨Nat.zero_le _, Nat.zero_le _⟩ rfl (fun H locs hP hD hS => ?_)
        refine lv_aload_n X.1 X.2.1 dX3_silent_45 rfl (lv_at hl 0 rfl) ?_
        refine z_get X hK hP hiX3 19 rfl rfl 5 (by decide) (bw_in W4_17) rfl dX3_silent_46 ?_
        refine lv_iload_n X.1 X.2.1 dX3_silent_49 rfl (lv_at hl 1 rfl) ?_
        refine lv_aload_n X.1 X.2.1 dX3_silent_50 rfl (lv_at hl 0 rfl) ?_
        refine z_get X hK hP hiX3 19 rfl rfl 1 (by decide) (bw_in W4_20) rfl dX3_silent_51 ?_
        obtain ⟨r13, hc14, hf⟩ := bd1_e hf
        refine z_V (n := 0) (As := []) (rest := [.int x1, .ref (aP 6)]) (ci := 4) (q0 := 9) X hK hN (kX4_heard l D K aH aR h0 r11 _ r13 hc14) (bw_V W29_11 W25_22 W25_23 W1_22 W26_0) rfl ⟨rfl, rfl⟩ (by decide +kernel) rfl ⟨Nat.le_of_ble_eq_true rfl, Nat.le_of_ble_eq_true rfl⟩ (hP.sub [0, 1, 2, 3, 4, 5, 6, 7, 8, 9, 10, 11, 12, 13, 14, 15, 16, 17, 18] rfl) (hD.sub [0, 1, 2, 3, 4, 5, 6, 7, 8, 9, 10, 11, 12, 13, 14, 15, 16, 17, 18] (by decide) rfl) rfl rfl (zj_sub (ws' := wbX2 K aH h0 ++ (wbX4 K (aH 0) aR r11 ++ (wbX3 K (aH 0) (aR 0) aP p0 pL0))) hP hD hS hA [0, 1, 2, 3, 4, 5, 6, 7, 8, 9, 10, 11, 12, 13, 14, 15, 16, 17, 18] [19, 20, 21, 22] [4, 5, 6, 7, 8, 9, 10, 11, 12, 13, 14, 15, 16, 17, 18, 19, 20, 21, 22, 0, 1, 2, 3] rfl rfl (by decide) (by decide) (by decide) rfl) hS hl.1 rfl (Nat.le_of_ble_eq_true rfl) dX3_silent_54 ⟨Nat.zero_le _, Nat.zero_le _⟩ rfl (fun H locs hP hD hS => ?_)
        obtain ⟨hi15, hf⟩ := chk_e hf
        obtain ⟨pL16, epL16, hf⟩ := stp_e hf
        refine z_last (ws' := wbX2 K aH h0 ++ (wbX4 K (aH 0) aR r11 ++ (wbX3 K (aH 0) (aR 0) aP p0 pL16))) X hK hP hD hS 22 rfl hi15 dX3_silent_57 (by rw [epL16]; rfl) (fun H locs hP hD hS => ?_)
        refine lv_aload_n X.1 X.2.1 dX3_silent_58 rfl (lv_at hl 0 rfl) ?_
        refine lv_iload_n X.1 X.2.1 dX3_silent_59 rfl (lv_at hl 1 rfl) ?_
        refine lv_iconst (v := 1) X.1 X.2.1 dX3_silent_60 (by decide) ?_
        refine lv_iadd X.1 X.2.1 dX3_silent_61 ?_
        obtain ⟨p17, ep17, hf⟩ := stp_e hf
        refine z_put (ws' := wbX2 K aH h0 ++ (wbX4 K (aH 0) aR r11 ++ (wbX3 K (aH 0) (aR 0) aP p17 pL16))) X hK hP hD hS hiX3 tyX3_ok nmX3 19 rfl rfl 6 (by decide) (bw_in W4_18) rfl rfl rfl (Nat.le_of_ble_eq_true rfl) dX3_silent_62 (by rw [ep17]; rfl) (fun H locs hP hD hS => ?_)
        refine lv_aload_n X.1 X.2.1 dX3_silent_65 rfl (lv_at hl 0 rfl) ?_
        refine z_get X hK hP hiX3 19 rfl rfl 5 (by decide) (bw_in W4_17) rfl dX3_silent_66 ?_
        refine lv_iload_n X.1 X.2.1 dX3_silent_69 rfl (lv_at hl 1 rfl) ?_
        obtain ⟨hi19, hf⟩ := chk_e hf
        obtain ⟨v18, ev18, hf⟩ := stp_e hf
        refine z_lald X hK hP 22 rfl hi19 ev18 dX3_silent_70 ?_
        refine lv_iload_n X.1 X.2.1 dX3_silent_71 rfl (lv_at hl 2 rfl) ?_
        refine lv_lushr X.1 X.2.1 dX3_silent_72 rfl ?_
        refine lv_lconst (v := 1) X.1 X.2.1 dX3_silent_73 rfl ?_
        refine lv_land X.1 X.2.1 dX3_silent_74 ?_
        refine lv_lconst (v := 0) X.1 X.2.1 dX3_silent_75 rfl ?_
        refine W.lcmp X.1 X.2.1 dX3_silent_76 ?_
        refine lv_if_ne (tgt := 84) X.1 X.2.1 dX3_silent_77 (by decide) (fun c20 => ?_) (fun c20 => ?_)
        · have hf := ite_f hf c20
          refine lv_iconst (v := 0) X.1 X.2.1 dX3_silent_84 (by decide) ?_
          obtain ⟨rfl, rfl, rfl, rfl⟩ := z_inj4 hf
          exact z_zret X hr hlk (by decide) hP hD hS dX3_silent_85
        · have hf := ite_t hf c20
          refine lv_iconst (v := 1) X.1 X.2.1 dX3_silent_80 (by decide) ?_
          refine lv_goto (tgt := 85) X.1 X.2.1 dX3_silent_81 (by decide) ?_
          obtain ⟨rfl, rfl, rfl, rfl⟩ := z_inj4 hf
          exact z_zret X hr hlk (by decide) hP hD hS dX3_silent_85
    · have hf := ite_f hf c2
      refine lv_iconst (v := 0) X.1 X.2.1 dX3_silent_11 (by decide) ?_
      obtain ⟨rfl, rfl, rfl, rfl⟩ := z_inj4 hf
      exact z_zret X hr hlk (by decide) hP hD hS dX3_silent_12
abbrev rmX3_findOut : Room := { frames := 5, cells := 0, slots := 0, locals := 122 }
set_option maxHeartbeats 4000000 in
set_option maxRecDepth 100000 in
theorem kX3_findOut (l : Launch) (D : va_G) (K : Nat → ClassId) (aH : Nat → Nat) (aR : Nat → Nat) (aP : Nat → Nat) (h0 : St) (r0 : St) (p0 : St) (pL0 : Lt) (sz : Nat) (x1 : Int32) (x2 : Int32) (r_ : St) (p_ : St) (pL_ : Lt) (hf : fX3_findOut h0 r0 p0 pL0 x1 x2 = some (r_, p_, pL_)) : Met l yX3_findOut (bw (Cond.code yX3_findOut cX3_findOut 7 none)) rmX3_findOut (va_Pc [.ref (aP 0), .int x1, .int x2] (zB D K sz (wbX2 K aH h0 ++ (wbX4 K (aH 0) aR r0 ++ (wbX3 K (aH 0) (aR 0) aP p0 pL0))))) (zQ (none) D (va_A (wbX2 K aH h0 ++ (wbX4 K (aH 0) aR r0 ++ (wbX3 K (aH 0) (aR 0) aP p0 pL0))) sz) (wbX2 K aH h0 ++ (wbX4 K (aH 0) aR r_ ++ (wbX3 K (aH 0) (aR 0) aP p_ pL_)))) 0 0 (va_A (wbX2 K aH h0 ++ (wbX4 K (aH 0) aR r0 ++ (wbX3 K (aH 0) (aR 0) aP p0 pL0))) sz) := by
  refine z_of (cc := cX3_findOut) (maxL := 7) (ret := none) (own := RX3) (lv := [(0, .ref (aP 0)), (1, .int x1), (2, .int x2)]) (by decide) rfl rfl (Nat.le_of_ble_eq_true rfl) rfl ?_
  intro p e s m below meth c X hr hlk hK hN hsz hP hD hA hS hin ls hl
  generalize va_A (wbX2 K aH h0 ++ (wbX4 K (aH 0) aR r0 ++ (wbX3 K (aH 0) (aR 0) aP p0 pL0))) sz = A at hD hA hS hN ⊢
  have hiX2 : ∀ w ∈ u_ws RX2 TX2 14, w ∈ (bw (Cond.code yX3_findOut cX3_findOut 7 none)) := fun w h => bw_in (inlX2 w h)
  have hiX3 : ∀ w ∈ u_ws RX3 TX3 7, w ∈ (bw (Cond.code yX3_findOut cX3_findOut 7 none)) := fun w h => bw_in (inlX3 w h)
  have L112_2 : ∀ (rec94 : Int32 → Int32 → Int32 → St → St → Lt → Option (St × St × Lt)) (hrec94 : ∀ (n94_0 : Int32) (n94_1 : Int32) (n94_2 : Int32) (q94_R : St) (q94_P : St) (q94_PL : Lt), rec94 n94_0 n94_1 n94_2 q94_R q94_P q94_PL = some ((r_, p_, pL_)) → ∀ (H : Heap) (locs : List Loc), va_P D vwCl (wbX2 K aH h0 ++ (wbX4 K (aH 0) aR q94_R ++ (wbX3 K (aH 0) (aR 0) aP q94_P q94_PL))) H → va_D A (wbX2 K aH h0 ++ (wbX4 K (aH 0) aR q94_R ++ (wbX3 K (aH 0) (aR 0) aP q94_P q94_PL))) → va_S A s.heap H locs → ∀ (ls : Array Slot), lv_has ls 7 [(0, .ref (aP 0)), (3, .int n94_0), (4, .int n94_1), (5, .int n94_2)] → W p l e rmX3_findOut s m ([.ref (aP 0), .int x1, .int x2] : List Value).toArray below meth c H locs 0 0 (MQ below (zQ (none) D A (wbX2 K aH h0 ++ (wbX4 K (aH 0) aR r_ ++ (wbX3 K (aH 0) (aR 0) aP p_ pL_)))) ([.ref (aP 0), .int x1, .int x2] : List Value).toArray s 0 0 A) (F0 m 94 ls [])), ∀ (n : Nat), ∀ (n112_0 : Int32) (n112_1 : Int32) (n112_2 : Int32) (n112_3 : Int32) (q112_R : St) (q112_P : St) (q112_PL : Lt), fX3_findOut_112 h0 rec94 n n112_0 n112_1 n112_2 n112_3 q112_R q112_P q112_PL = some ((r_, p_, pL_)) → ∀ (H : Heap) (locs : List Loc), va_P D vwCl (wbX2 K aH h0 ++ (wbX4 K (aH 0) aR q112_R ++ (wbX3 K (aH 0) (aR 0) aP q112_P q112_PL))) H → va_D A (wbX2 K aH h0 ++ (wbX4 K (aH 0) aR q112_R ++ (wbX3 K (aH 0) (aR 0) aP q112_P q112_PL))) → va_S A s.heap H locs → ∀ (ls : Array Slot), lv_has ls 7 [(0, .ref (aP 0)), (3, .int n112_0), (4, .int n112_1), (5, .int n112_2), (6, .int n112_3)] → W p l e rmX3_findOut s m ([.ref (aP 0), .int x1, .int x2] : List Value).toArray below meth c H locs 0 0 (MQ below (zQ (none) D A (wbX2 K aH h0 ++ (wbX4 K (aH 0) aR r_ ++ (wbX3 K (aH 0) (aR 0) aP p_ pL_)))) ([.ref (aP 0), .int x1, .int x2] : List Value).toArray s 0 0 A) (F0 m 112 ls []) := by
    intro rec94 hrec94 n
    induction n with
    | zero =>
      intro n112_0 n112_1 n112_2 n112_3 q112_R q112_P q112_PL hf
      rw [fX3_findOut_112] at hf
      cases hf
    | succ n ih =>
      intro n112_0 n112_1 n112_2 n112_3 q112_R q112_P q112_PL hf H locs hP hD hS ls hl
      rw [fX3_findOut_112] at hf
      refine lv_iload X.1 X.2.1 dX3_findOut_112 (lv_at hl 4 rfl) ?_
      refine lv_aload_n X.1 X.2.1 dX3_findOut_114 rfl (lv_at hl 0 rfl) ?_
      refine z_get X hK hP hiX3 19 rfl rfl 0 (by decide) (bw_in W4_19) rfl dX3_findOut_115 ?_
      refine z_get X hK hP hiX2 0 rfl rfl 4 (by decide) (bw_in W29_6) rfl dX3_findOut_118 ?_
      refine lv_icmp_ge (tgt := 160) X.1 X.2.1 dX3_findOut_121 (by decide) (fun c14 => ?_) (fun c14 => ?_)
      · have hf := ite_t hf c14
        obtain ⟨w15, ew15, hf⟩ := stp_e hf
        refine lv_iinc (v := w15) (lv' := [(5, .int w15), (0, .ref (aP 0)), (3, .int n112_0), (4, .int n112_1), (6, .int n112_3)]) X.1 X.2.1 dX3_findOut_160 hl (k := 3) rfl (by rw [ew15]; rfl) (by decide) rfl (fun ls hl => ?_)
        refine lv_goto (tgt := 94) X.1 X.2.1 dX3_findOut_163 (by decide) ?_
        exact hrec94 _ _ _ _ _ _ hf _ _ hP hD hS _ (lv_sub hl [1, 2, 3, 0] rfl)
      · have hf := ite_f hf c14
        refine lv_aload_n X.1 X.2.1 dX3_findOut_124 rfl (lv_at hl 0 rfl) ?_
        refine lv_iload X.1 X.2.1 dX3_findOut_125 (lv_at hl 2 rfl) ?_
        refine lv_iload_n X.1 X.2.1 dX3_findOut_127 rfl (lv_at hl 1 rfl) ?_
        refine lv_iload X.1 X.2.1 dX3_findOut_128 (lv_at hl 3 rfl) ?_
        refine lv_iload X.1 X.2.1 dX3_findOut_130 (lv_at hl 4 rfl) ?_
        obtain ⟨r16, r17, p18, pL19, hc20, hf⟩ := bd4_e hf
        refine z_V (n := 4) (As := [.int n112_1, .int n112_0, .int n112_2, .int n112_3]) (rest := []) (ci := 3) (q0 := 19) X hK hN (kX3_silent l D K aH aR aP h0 q112_R q112_P q112_PL _ n112_1 n112_0 n112_2 n112_3 r16 r17 p18 pL19 hc20) (bw_V W29_7 W29_8 W29_9 W2_3 W29_10) rfl ⟨rfl, rfl⟩ (by decide +kernel) rfl ⟨Nat.le_of_ble_eq_true rfl, Nat.le_of_ble_eq_true rfl⟩ hP hD rfl rfl (zj_same hD hS hA) hS hl.1 rfl (Nat.le_of_ble_eq_true rfl) dX3_findOut_132 ⟨Nat.zero_le _, Nat.zero_le _⟩ rfl (fun H locs hP hD hS => ?_)
        refine lv_if_eq (tgt := 151) X.1 X.2.1 dX3_findOut_135 (by decide) (fun c21 => ?_) (fun c21 => ?_)
        · have hf := ite_t hf c21
          obtain ⟨w22, ew22, hf⟩ := stp_e hf
          refine lv_iinc (v := w22) (lv' := [(4, .int w22), (0, .ref (aP 0)), (3, .int n112_0), (5, .int n112_2), (6, .int n112_3)]) X.1 X.2.1 dX3_findOut_151 hl (k := 2) rfl (by rw [ew22]; rfl) (by decide) rfl (fun ls hl => ?_)
          obtain ⟨w23, ew23, hf⟩ := stp_e hf
          refine lv_iinc (v := w23) (lv' := [(6, .int w23), (4, .int w22), (0, .ref (aP 0)), (3, .int n112_0), (5, .int n112_2)]) X.1 X.2.1 dX3_findOut_154 hl (k := 4) rfl (by rw [ew23]; rfl) (by decide) rfl (fun ls hl => ?_)
          refine lv_goto (tgt := 112) X.1 X.2.1 dX3_findOut_157 (by decide) ?_
          exact ih _ _ _ _ _ _ _ hf _ _ hP hD hS _ (lv_sub hl [2, 3, 1, 4, 0] rfl)
        · have hf := ite_f hf c21
          refine lv_aload_n X.1 X.2.1 dX3_findOut_138 rfl (lv_at hl 0 rfl) ?_
          refine z_get X hK hP hiX3 19 rfl rfl 4 (by decide) (bw_in W4_15) rfl dX3_findOut_139 ?_
          refine lv_iconst (v := 2) X.1 X.2.1 dX3_findOut_142 (by decide) ?_
          refine lv_iload X.1 X.2.1 dX3_findOut_143 (lv_at hl 3 rfl) ?_
          refine lv_iload X.1 X.2.1 dX3_findOut_145 (lv_at hl 4 rfl) ?_
          obtain ⟨a24, hc25, hf⟩ := bd1_e hf
          obtain ⟨p26, ep26, hf⟩ := stp_e hf
          refine z_S (n := 4) (As := [.ref (aP 5), .int 2, .int n112_2, .int n112_3]) (rest := []) X hK hN (kX3_note l D K (aP 5) 3 (p18 5) _ 2 n112_2 n112_3 a24 hc25) (bw_S W27_0 W27_1 W2_3 W27_2) rfl ⟨rfl, rfl⟩ (by decide +kernel) rfl ⟨Nat.le_of_ble_eq_true rfl, Nat.le_of_ble_eq_true rfl⟩ (hP.sub [21] rfl) (hD.sub [21] (by decide) rfl) (zj_sub (ws' := wbX2 K aH h0 ++ (wbX4 K (aH 0) aR r17 ++ (wbX3 K (aH 0) (aR 0) aP p26 pL19))) hP hD hS hA [21] [0, 1, 2, 3, 4, 5, 6, 7, 8, 9, 10, 11, 12, 13, 14, 15, 16, 17, 18, 19, 20, 22] [0, 1, 2, 3, 4, 5, 6, 7, 8, 9, 10, 11, 12, 13, 14, 15, 16, 17, 18, 19, 20, 22, 21] rfl rfl (by decide) (by decide) (by decide) (by rw [ep26]; rfl)) hS hl.1 rfl (Nat.le_of_ble_eq_true rfl) dX3_findOut_147 ⟨Nat.zero_le _, Nat.zero_le _⟩ rfl (fun H locs hP hD hS => ?_)
          obtain ⟨rfl, rfl, rfl⟩ := z_inj3 hf
          exact z_vret X hr hlk hP hD hS dX3_findOut_150
  have L94_1 : ∀ (n : Nat), ∀ (n94_0 : Int32) (n94_1 : Int32) (n94_2 : Int32) (q94_R : St) (q94_P : St) (q94_PL : Lt), fX3_findOut_94 h0 n n94_0 n94_1 n94_2 q94_R q94_P q94_PL = some ((r_, p_, pL_)) → ∀ (H : Heap) (locs : List Loc), va_P D vwCl (wbX2 K aH h0 ++ (wbX4 K (aH 0) aR q94_R ++ (wbX3 K (aH 0) (aR 0) aP q94_P q94_PL))) H → va_D A (wbX2 K aH h0 ++ (wbX4 K (aH 0) aR q94_R ++ (wbX3 K (aH 0) (aR 0) aP q94_P q94_PL))) → va_S A s.heap H locs → ∀ (ls : Array Slot), lv_has ls 7 [(0, .ref (aP 0)), (3, .int n94_0), (4, .int n94_1), (5, .int n94_2)] → W p l e rmX3_findOut s m ([.ref (aP 0), .int x1, .int x2] : List Value).toArray below meth c H locs 0 0 (MQ below (zQ (none) D A (wbX2 K aH h0 ++ (wbX4 K (aH 0) aR r_ ++ (wbX3 K (aH 0) (aR 0) aP p_ pL_)))) ([.ref (aP 0), .int x1, .int x2] : List Value).toArray s 0 0 A) (F0 m 94 ls []) := by
    intro n
    induction n with
    | zero =>
      intro n94_0 n94_1 n94_2 q94_R q94_P q94_PL hf
      rw [fX3_findOut_94] at hf
      cases hf
    | succ n ih =>
      intro n94_0 n94_1 n94_2 q94_R q94_P q94_PL hf H locs hP hD hS ls hl
      rw [fX3_findOut_94] at hf
      refine lv_iload X.1 X.2.1 dX3_findOut_94 (lv_at hl 3 rfl) ?_
      refine lv_aload_n X.1 X.2.1 dX3_findOut_96 rfl (lv_at hl 0 rfl) ?_
      refine z_get X hK hP hiX3 19 rfl rfl 0 (by decide) (bw_in W4_19) rfl dX3_findOut_97 ?_
      refine z_get X hK hP hiX2 0 rfl rfl 4 (by decide) (bw_in W29_6) rfl dX3_findOut_100 ?_
      refine lv_icmp_ge (tgt := 166) X.1 X.2.1 dX3_findOut_103 (by decide) (fun c12 => ?_) (fun c12 => ?_)
      · have hf := ite_t hf c12
        obtain ⟨rfl, rfl, rfl⟩ := z_inj3 hf
        exact z_vret X hr hlk hP hD hS dX3_findOut_166
      · have hf := ite_f hf c12
        refine lv_iload X.1 X.2.1 dX3_findOut_106 (lv_at hl 3 rfl) ?_
        refine lv_iconst (v := 1) X.1 X.2.1 dX3_findOut_108 (by decide) ?_
        refine lv_iadd X.1 X.2.1 dX3_findOut_109 ?_
        obtain ⟨w13, ew13, hf⟩ := stp_e hf
        refine z_top ew13 ?_
        refine lv_istore (lv' := [(6, .int w13), (0, .ref (aP 0)), (3, .int n94_0), (4, .int n94_1), (5, .int n94_2)]) X.1 X.2.1 dX3_findOut_110 hl (by decide) rfl (fun ls hl => ?_)
        exact L112_2 _ ih _ _ _ _ _ _ _ _ hf _ _ hP hD hS _ (lv_sub hl [1, 2, 3, 4, 0] rfl)
  have L45_0 : ∀ (n : Nat), ∀ (n45_0 : Int32) (n45_1 : Int32) (n45_2 : Int32) (q45_R : St) (q45_P : St) (q45_PL : Lt), fX3_findOut_45 h0 n n45_0 n45_1 n45_2 q45_R q45_P q45_PL = some ((r_, p_, pL_)) → ∀ (H : Heap) (locs : List Loc), va_P D vwCl (wbX2 K aH h0 ++ (wbX4 K (aH 0) aR q45_R ++ (wbX3 K (aH 0) (aR 0) aP q45_P q45_PL))) H → va_D A (wbX2 K aH h0 ++ (wbX4 K (aH 0) aR q45_R ++ (wbX3 K (aH 0) (aR 0) aP q45_P q45_PL))) → va_S A s.heap H locs → ∀ (ls : Array Slot), lv_has ls 7 [(0, .ref (aP 0)), (3, .int n45_0), (4, .int n45_1), (5, .int n45_2)] → W p l e rmX3_findOut s m ([.ref (aP 0), .int x1, .int x2] : List Value).toArray below meth c H locs 0 0 (MQ below (zQ (none) D A (wbX2 K aH h0 ++ (wbX4 K (aH 0) aR r_ ++ (wbX3 K (aH 0) (aR 0) aP p_ pL_)))) ([.ref (aP 0), .int x1, .int x2] : List Value).toArray s 0 0 A) (F0 m 45 ls []) := by
    intro n
    induction n with
    | zero =>
      intro n45_0 n45_1 n45_2 q45_R q45_P q45_PL hf
      rw [fX3_findOut_45] at hf
      cases hf
    | succ n ih =>
      intro n45_0 n45_1 n45_2 q45_R q45_P q45_PL hf H locs hP hD hS ls hl
      rw [fX3_findOut_45] at hf
      refine lv_iload X.1 X.2.1 dX3_findOut_45 (lv_at hl 3 rfl) ?_
      refine lv_aload_n X.1 X.2.1 dX3_findOut_47 rfl (lv_at hl 0 rfl) ?_
      refine z_get X hK hP hiX3 19 rfl rfl 0 (by decide) (bw_in W4_19) rfl dX3_findOut_48 ?_
      refine z_get X hK hP hiX2 0 rfl rfl 4 (by decide) (bw_in W29_6) rfl dX3_findOut_51 ?_
      refine lv_icmp_ge (tgt := 91) X.1 X.2.1 dX3_findOut_54 (by decide) (fun c11 => ?_) (fun c11 => ?_)
      · have hf := ite_t hf c11
        refine lv_iconst (v := 0) X.1 X.2.1 dX3_findOut_91 (by decide) ?_
        refine lv_istore (lv' := [(5, .int 0), (0, .ref (aP 0)), (3, .int n45_0), (4, .int n45_1)]) X.1 X.2.1 dX3_findOut_92 hl (by decide) rfl (fun ls hl => ?_)
        exact L94_1  _ _ _ _ _ _ _ hf _ _ hP hD hS _ (lv_sub hl [1, 2, 3, 0] rfl)
      · have hf := ite_f hf c11
        refine lv_aload_n X.1 X.2.1 dX3_findOut_57 rfl (lv_at hl 0 rfl) ?_
        refine lv_iload X.1 X.2.1 dX3_findOut_58 (lv_at hl 2 rfl) ?_
        refine lv_iload_n X.1 X.2.1 dX3_findOut_60 rfl (lv_at hl 1 rfl) ?_
        refine lv_iload X.1 X.2.1 dX3_findOut_61 (lv_at hl 3 rfl) ?_
        refine lv_iconst (v := -1) X.1 X.2.1 dX3_findOut_63 (by decide) ?_
        obtain ⟨r27, r28, p29, pL30, hc31, hf⟩ := bd4_e hf
        refine z_V (n := 4) (As := [.int n45_1, .int n45_0, .int n45_2, .int ((-1))]) (rest := []) (ci := 3) (q0 := 19) X hK hN (kX3_silent l D K aH aR aP h0 q45_R q45_P q45_PL _ n45_1 n45_0 n45_2 ((-1)) r27 r28 p29 pL30 hc31) (bw_V W29_7 W29_8 W29_9 W2_3 W29_10) rfl ⟨rfl, rfl⟩ (by decide +kernel) rfl ⟨Nat.le_of_ble_eq_true rfl, Nat.le_of_ble_eq_true rfl⟩ hP hD rfl rfl (zj_same hD hS hA) hS hl.1 rfl (Nat.le_of_ble_eq_true rfl) dX3_findOut_64 ⟨Nat.zero_le _, Nat.zero_le _⟩ rfl (fun H locs hP hD hS => ?_)
        refine lv_if_eq (tgt := 82) X.1 X.2.1 dX3_findOut_67 (by decide) (fun c32 => ?_) (fun c32 => ?_)
        · have hf := ite_t hf c32
          obtain ⟨w33, ew33, hf⟩ := stp_e hf
          refine lv_iinc (v := w33) (lv' := [(4, .int w33), (0, .ref (aP 0)), (3, .int n45_0), (5, .int n45_2)]) X.1 X.2.1 dX3_findOut_82 hl (k := 2) rfl (by rw [ew33]; rfl) (by decide) rfl (fun ls hl => ?_)
          obtain ⟨w34, ew34, hf⟩ := stp_e hf
          refine lv_iinc (v := w34) (lv' := [(5, .int w34), (4, .int w33), (0, .ref (aP 0)), (3, .int n45_0)]) X.1 X.2.1 dX3_findOut_85 hl (k := 3) rfl (by rw [ew34]; rfl) (by decide) rfl (fun ls hl => ?_)
          refine lv_goto (tgt := 45) X.1 X.2.1 dX3_findOut_88 (by decide) ?_
          exact ih _ _ _ _ _ _ hf _ _ hP hD hS _ (lv_sub hl [2, 3, 1, 0] rfl)
        · have hf := ite_f hf c32
          refine lv_aload_n X.1 X.2.1 dX3_findOut_70 rfl (lv_at hl 0 rfl) ?_
          refine z_get X hK hP hiX3 19 rfl rfl 4 (by decide) (bw_in W4_15) rfl dX3_findOut_71 ?_
          refine lv_iconst (v := 1) X.1 X.2.1 dX3_findOut_74 (by decide) ?_
          refine lv_iload X.1 X.2.1 dX3_findOut_75 (lv_at hl 3 rfl) ?_
          refine lv_iconst (v := -1) X.1 X.2.1 dX3_findOut_77 (by decide) ?_
          obtain ⟨a35, hc36, hf⟩ := bd1_e hf
          obtain ⟨p37, ep37, hf⟩ := stp_e hf
          refine z_S (n := 4) (As := [.ref (aP 5), .int 1, .int n45_2, .int ((-1))]) (rest := []) X hK hN (kX3_note l D K (aP 5) 3 (p29 5) _ 1 n45_2 ((-1)) a35 hc36) (bw_S W27_0 W27_1 W2_3 W27_2) rfl ⟨rfl, rfl⟩ (by decide +kernel) rfl ⟨Nat.le_of_ble_eq_true rfl, Nat.le_of_ble_eq_true rfl⟩ (hP.sub [21] rfl) (hD.sub [21] (by decide) rfl) (zj_sub (ws' := wbX2 K aH h0 ++ (wbX4 K (aH 0) aR r28 ++ (wbX3 K (aH 0) (aR 0) aP p37 pL30))) hP hD hS hA [21] [0, 1, 2, 3, 4, 5, 6, 7, 8, 9, 10, 11, 12, 13, 14, 15, 16, 17, 18, 19, 20, 22] [0, 1, 2, 3, 4, 5, 6, 7, 8, 9, 10, 11, 12, 13, 14, 15, 16, 17, 18, 19, 20, 22, 21] rfl rfl (by decide) (by decide) (by decide) (by rw [ep37]; rfl)) hS hl.1 rfl (Nat.le_of_ble_eq_true rfl) dX3_findOut_78 ⟨Nat.zero_le _, Nat.zero_le _⟩ rfl (fun H locs hP hD hS => ?_)
          obtain ⟨rfl, rfl, rfl⟩ := z_inj3 hf
          exact z_vret X hr hlk hP hD hS dX3_findOut_81
  rw [fX3_findOut] at hf
  refine lv_aload_n X.1 X.2.1 dX3_findOut_0 rfl (lv_at hl 0 rfl) ?_
  refine z_get X hK hP hiX3 19 rfl rfl 4 (by decide) (bw_in W4_15) rfl dX3_findOut_1 ?_
  refine lv_iconst (v := -1) X.1 X.2.1 dX3_findOut_4 (by decide) ?_
  refine lv_iconst (v := -1) X.1 X.2.1 dX3_findOut_5 (by decide) ?_
  refine lv_iconst (v := -1) X.1 X.2.1 dX3_findOut_6 (by decide) ?_
  obtain ⟨a1, hc2, hf⟩ := bd1_e hf
  obtain ⟨p3, ep3, hf⟩ := stp_e hf
  refine z_S (n := 4) (As := [.ref (aP 5), .int ((-1)), .int ((-1)), .int ((-1))]) (rest := []) X hK hN (kX3_note l D K (aP 5) 3 (p0 5) _ ((-1)) ((-1)) ((-1)) a1 hc2) (bw_S W27_0 W27_1 W2_3 W27_2) rfl ⟨rfl, rfl⟩ (by decide +kernel) rfl ⟨Nat.le_of_ble_eq_true rfl, Nat.le_of_ble_eq_true rfl⟩ (hP.sub [21] rfl) (hD.sub [21] (by decide) rfl) (zj_sub (ws' := wbX2 K aH h0 ++ (wbX4 K (aH 0) aR r0 ++ (wbX3 K (aH 0) (aR 0) aP p3 pL0))) hP hD hS hA [21] [0, 1, 2, 3, 4, 5, 6, 7, 8, 9, 10, 11, 12, 13, 14, 15, 16, 17, 18, 19, 20, 22] [0, 1, 2, 3, 4, 5, 6, 7, 8, 9, 10, 11, 12, 13, 14, 15, 16, 17, 18, 19, 20, 22, 21] rfl rfl (by decide) (by decide) (by decide) (by rw [ep3]; rfl)) hS hl.1 rfl (Nat.le_of_ble_eq_true rfl) dX3_findOut_7 ⟨Nat.zero_le _, Nat.zero_le _⟩ rfl (fun H locs hP hD hS => ?_)
  refine lv_bipush (v := 8) X.1 X.2.1 dX3_findOut_10 (by decide) ?_
  refine lv_iload_n X.1 X.2.1 dX3_findOut_12 rfl (lv_at hl 1 rfl) ?_
  refine lv_imul X.1 X.2.1 dX3_findOut_13 ?_
  refine lv_iload_n X.1 X.2.1 dX3_findOut_14 rfl (lv_at hl 2 rfl) ?_
  refine lv_iadd X.1 X.2.1 dX3_findOut_15 ?_
  obtain ⟨w4, ew4, hf⟩ := stp_e hf
  refine z_top ew4 ?_
  refine lv_istore_n (lv' := [(3, .int w4), (0, .ref (aP 0)), (1, .int x1), (2, .int x2)]) X.1 X.2.1 dX3_findOut_16 rfl hl (by decide) rfl (fun ls hl => ?_)
  refine lv_aload_n X.1 X.2.1 dX3_findOut_17 rfl (lv_at hl 1 rfl) ?_
  refine lv_iconst (v := 0) X.1 X.2.1 dX3_findOut_18 (by decide) ?_
  refine lv_iload_n X.1 X.2.1 dX3_findOut_19 rfl (lv_at hl 0 rfl) ?_
  refine lv_iconst (v := -1) X.1 X.2.1 dX3_findOut_20 (by decide) ?_
  refine lv_iconst (v := -1) X.1 X.2.1 dX3_findOut_21 (by decide) ?_
  obtain ⟨r5, r6, p7, pL8, hc9, hf⟩ := bd4_e hf
  refine z_V (n := 4) (As := [.int 0, .int w4, .int ((-1)), .int ((-1))]) (rest := []) (ci := 3) (q0 := 19) X hK hN (kX3_silent l D K aH aR aP h0 r0 p3 pL0 _ 0 w4 ((-1)) ((-1)) r5 r6 p7 pL8 hc9) (bw_V W29_7 W29_8 W29_9 W2_3 W29_10) rfl ⟨rfl, rfl⟩ (by decide +kernel) rfl ⟨Nat.le_of_ble_eq_true rfl, Nat.le_of_ble_eq_true rfl⟩ hP hD rfl rfl (zj_same hD hS hA) hS hl.1 rfl (Nat.le_of_ble_eq_true rfl) dX3_findOut_22 ⟨Nat.zero_le _, Nat.zero_le _⟩ rfl (fun H locs hP hD hS => ?_)
  refine lv_if_eq (tgt := 39) X.1 X.2.1 dX3_findOut_25 (by decide) (fun c10 => ?_) (fun c10 => ?_)
  · have hf := ite_t hf c10
    refine lv_iconst (v := 1) X.1 X.2.1 dX3_findOut_39 (by decide) ?_
    refine lv_istore (lv' := [(4, .int 1), (3, .int w4), (0, .ref (aP 0)), (1, .int x1), (2, .int x2)]) X.1 X.2.1 dX3_findOut_40 hl (by decide) rfl (fun ls hl => ?_)
    refine lv_iconst (v := 0) X.1 X.2.1 dX3_findOut_42 (by decide) ?_
    refine lv_istore (lv' := [(5, .int 0), (4, .int 1), (3, .int w4), (0, .ref (aP 0)), (1, .int x1), (2, .int x2)]) X.1 X.2.1 dX3_findOut_43 hl (by decide) rfl (fun ls hl => ?_)
    exact L45_0  _ _ _ _ _ _ _ hf _ _ hP hD hS _ (lv_sub hl [3, 2, 1, 0] rfl)
  · have hf := ite_f hf c10
    refine lv_aload_n X.1 X.2.1 dX3_findOut_28 rfl (lv_at hl 1 rfl) ?_
    refine z_get X hK hP hiX3 19 rfl rfl 4 (by decide) (bw_in W4_15) rfl dX3_findOut_29 ?_
    refine lv_iconst (v := 0) X.1 X.2.1 dX3_findOut_32 (by decide) ?_
    refine lv_iconst (v := -1) X.1 X.2.1 dX3_findOut_33 (by decide) ?_
    refine lv_iconst (v := -1) X.1 X.2.1 dX3_findOut_34 (by decide) ?_
    obtain ⟨a38, hc39, hf⟩ := bd1_e hf
    obtain ⟨p40, ep40, hf⟩ := stp_e hf
    refine z_S (n := 4) (As := [.ref (aP 5), .int 0, .int ((-1)), .int ((-1))]) (rest := []) X hK hN (kX3_note l D K (aP 5) 3 (p7 5) _ 0 ((-1)) ((-1)) a38 hc39) (bw_S W27_0 W27_1 W2_3 W27_2) rfl ⟨rfl, rfl⟩ (by decide +kernel) rfl ⟨Nat.le_of_ble_eq_true rfl, Nat.le_of_ble_eq_true rfl⟩ (hP.sub [21] rfl) (hD.sub [21] (by decide) rfl) (zj_sub (ws' := wbX2 K aH h0 ++ (wbX4 K (aH 0) aR r6 ++ (wbX3 K (aH 0) (aR 0) aP p40 pL8))) hP hD hS hA [21] [0, 1, 2, 3, 4, 5, 6, 7, 8, 9, 10, 11, 12, 13, 14, 15, 16, 17, 18, 19, 20, 22] [0, 1, 2, 3, 4, 5, 6, 7, 8, 9, 10, 11, 12, 13, 14, 15, 16, 17, 18, 19, 20, 22, 21] rfl rfl (by decide) (by decide) (by decide) (by rw [ep40]; rfl)) hS hl.1 rfl (Nat.le_of_ble_eq_true rfl) dX3_findOut_35 ⟨Nat.zero_le _, Nat.zero_le _⟩ rfl (fun H locs hP hD hS => ?_)
    obtain ⟨rfl, rfl, rfl⟩ := z_inj3 hf
    exact z_vret X hr hlk hP hD hS dX3_findOut_38
abbrev rmX3_foundMore : Room := { frames := 0, cells := 0, slots := 0, locals := 0 }
set_option maxHeartbeats 4000000 in
set_option maxRecDepth 100000 in
theorem kX3_foundMore (l : Launch) (D : va_G) (K : Nat → ClassId) (aH : Nat → Nat) (aR : Nat → Nat) (aP : Nat → Nat) (h0 : St) (r0 : St) (p0 : St) (pL0 : Lt) (sz : Nat) (x1 : Int32) (q_ : Int32) (hf : fX3_foundMore h0 r0 p0 pL0 x1 = some q_) : Met l yX3_foundMore (bw (Cond.code yX3_foundMore cX3_foundMore 2 (some .int))) rmX3_foundMore (va_Pc [.ref (aP 0), .int x1] (zB D K sz (wbX2 K aH h0 ++ (wbX4 K (aH 0) aR r0 ++ (wbX3 K (aH 0) (aR 0) aP p0 pL0))))) (zQ (some (.int q_)) D (va_A (wbX2 K aH h0 ++ (wbX4 K (aH 0) aR r0 ++ (wbX3 K (aH 0) (aR 0) aP p0 pL0))) sz) (wbX2 K aH h0 ++ (wbX4 K (aH 0) aR r0 ++ (wbX3 K (aH 0) (aR 0) aP p0 pL0)))) 0 0 (va_A (wbX2 K aH h0 ++ (wbX4 K (aH 0) aR r0 ++ (wbX3 K (aH 0) (aR 0) aP p0 pL0))) sz) := by
  refine z_of (cc := cX3_foundMore) (maxL := 2) (ret := (some .int)) (own := RX3) (lv := [(0, .ref (aP 0)), (1, .int x1)]) (by decide) rfl rfl (Nat.le_of_ble_eq_true rfl) rfl ?_
  intro p e s m below meth c X hr hlk hK hN hsz hP hD hA hS hin ls hl
  generalize va_A (wbX2 K aH h0 ++ (wbX4 K (aH 0) aR r0 ++ (wbX3 K (aH 0) (aR 0) aP p0 pL0))) sz = A at hD hA hS hN ⊢
  have hiX3 : ∀ w ∈ u_ws RX3 TX3 7, w ∈ (bw (Cond.code yX3_foundMore cX3_foundMore 2 (some .int))) := fun w h => bw_in (inlX3 w h)
  rw [fX3_foundMore] at hf
  refine lv_iload_n X.1 X.2.1 dX3_foundMore_0 rfl (lv_at hl 1 rfl) ?_
  refine lv_iconst (v := -1) X.1 X.2.1 dX3_foundMore_1 (by decide) ?_
  refine lv_icmp_lt (tgt := 10) X.1 X.2.1 dX3_foundMore_2 (by decide) (fun c1 => ?_) (fun c1 => ?_)
  · have hf := ite_t hf c1
    refine lv_iconst (v := -1) X.1 X.2.1 dX3_foundMore_10 (by decide) ?_
    refine lv_goto (tgt := 22) X.1 X.2.1 dX3_foundMore_11 (by decide) ?_
    obtain rfl := z_inj1 hf
    exact z_iret X hr hlk hP hD hS dX3_foundMore_22
  · have hf := ite_f hf c1
    refine lv_iload_n X.1 X.2.1 dX3_foundMore_5 rfl (lv_at hl 1 rfl) ?_
    refine lv_iconst (v := 2) X.1 X.2.1 dX3_foundMore_6 (by decide) ?_
    refine lv_icmp_lt (tgt := 14) X.1 X.2.1 dX3_foundMore_7 (by decide) (fun c2 => ?_) (fun c2 => ?_)
    · have hf := ite_t hf c2
      refine lv_aload_n X.1 X.2.1 dX3_foundMore_14 rfl (lv_at hl 0 rfl) ?_
      refine z_get X hK hP hiX3 19 rfl rfl 3 (by decide) (bw_in W4_14) rfl dX3_foundMore_15 ?_
      refine lv_iconst (v := 1) X.1 X.2.1 dX3_foundMore_18 (by decide) ?_
      refine lv_iload_n X.1 X.2.1 dX3_foundMore_19 rfl (lv_at hl 1 rfl) ?_
      refine lv_iadd X.1 X.2.1 dX3_foundMore_20 ?_
      obtain ⟨hi4, hf⟩ := chk_e hf
      obtain ⟨v3, ev3, hf⟩ := stp_e hf
      refine z_iald X hK hP 20 rfl hi4 ev3 dX3_foundMore_21 ?_
      obtain rfl := z_inj1 hf
      exact z_iret X hr hlk hP hD hS dX3_foundMore_22
    · have hf := ite_f hf c2
      refine lv_iconst (v := -1) X.1 X.2.1 dX3_foundMore_10 (by decide) ?_
      refine lv_goto (tgt := 22) X.1 X.2.1 dX3_foundMore_11 (by decide) ?_
      obtain rfl := z_inj1 hf
      exact z_iret X hr hlk hP hD hS dX3_foundMore_22
abbrev rmX3_foundOut : Room := { frames := 0, cells := 0, slots := 0, locals := 0 }
set_option maxHeartbeats 4000000 in
set_option maxRecDepth 100000 in
theorem kX3_foundOut (l : Launch) (D : va_G) (K : Nat → ClassId) (aH : Nat → Nat) (aR : Nat → Nat) (aP : Nat → Nat) (h0 : St) (r0 : St) (p0 : St) (pL0 : Lt) (sz : Nat) (x1 : Int32) (q_ : Int32) (hf : fX3_foundOut h0 r0 p0 pL0 x1 = some q_) : Met l yX3_foundOut (bw (Cond.code yX3_foundOut cX3_foundOut 2 (some .int))) rmX3_foundOut (va_Pc [.ref (aP 0), .int x1] (zB D K sz (wbX2 K aH h0 ++ (wbX4 K (aH 0) aR r0 ++ (wbX3 K (aH 0) (aR 0) aP p0 pL0))))) (zQ (some (.int q_)) D (va_A (wbX2 K aH h0 ++ (wbX4 K (aH 0) aR r0 ++ (wbX3 K (aH 0) (aR 0) aP p0 pL0))) sz) (wbX2 K aH h0 ++ (wbX4 K (aH 0) aR r0 ++ (wbX3 K (aH 0) (aR 0) aP p0 pL0)))) 0 0 (va_A (wbX2 K aH h0 ++ (wbX4 K (aH 0) aR r0 ++ (wbX3 K (aH 0) (aR 0) aP p0 pL0))) sz) := by
  refine z_of (cc := cX3_foundOut) (maxL := 2) (ret := (some .int)) (own := RX3) (lv := [(0, .ref (aP 0)), (1, .int x1)]) (by decide) rfl rfl (Nat.le_of_ble_eq_true rfl) rfl ?_
  intro p e s m below meth c X hr hlk hK hN hsz hP hD hA hS hin ls hl
  generalize va_A (wbX2 K aH h0 ++ (wbX4 K (aH 0) aR r0 ++ (wbX3 K (aH 0) (aR 0) aP p0 pL0))) sz = A at hD hA hS hN ⊢
  have hiX3 : ∀ w ∈ u_ws RX3 TX3 7, w ∈ (bw (Cond.code yX3_foundOut cX3_foundOut 2 (some .int))) := fun w h => bw_in (inlX3 w h)
  rw [fX3_foundOut] at hf
  refine lv_iload_n X.1 X.2.1 dX3_foundOut_0 rfl (lv_at hl 1 rfl) ?_
  refine lv_iconst (v := -1) X.1 X.2.1 dX3_foundOut_1 (by decide) ?_
  refine lv_icmp_lt (tgt := 10) X.1 X.2.1 dX3_foundOut_2 (by decide) (fun c1 => ?_) (fun c1 => ?_)
  · have hf := ite_t hf c1
    refine lv_iconst (v := -1) X.1 X.2.1 dX3_foundOut_10 (by decide) ?_
    refine lv_goto (tgt := 22) X.1 X.2.1 dX3_foundOut_11 (by decide) ?_
    obtain rfl := z_inj1 hf
    exact z_iret X hr hlk hP hD hS dX3_foundOut_22
  · have hf := ite_f hf c1
    refine lv_iload_n X.1 X.2.1 dX3_foundOut_5 rfl (lv_at hl 1 rfl) ?_
    refine lv_iconst (v := 2) X.1 X.2.1 dX3_foundOut_6 (by decide) ?_
    refine lv_icmp_lt (tgt := 14) X.1 X.2.1 dX3_foundOut_7 (by decide) (fun c2 => ?_) (fun c2 => ?_)
    · have hf := ite_t hf c2
      refine lv_aload_n X.1 X.2.1 dX3_foundOut_14 rfl (lv_at hl 0 rfl) ?_
      refine z_get X hK hP hiX3 19 rfl rfl 4 (by decide) (bw_in W4_15) rfl dX3_foundOut_15 ?_
      refine lv_iconst (v := 1) X.1 X.2.1 dX3_foundOut_18 (by decide) ?_
      refine lv_iload_n X.1 X.2.1 dX3_foundOut_19 rfl (lv_at hl 1 rfl) ?_
      refine lv_iadd X.1 X.2.1 dX3_foundOut_20 ?_
      obtain ⟨hi4, hf⟩ := chk_e hf
      obtain ⟨v3, ev3, hf⟩ := stp_e hf
      refine z_iald X hK hP 21 rfl hi4 ev3 dX3_foundOut_21 ?_
      obtain rfl := z_inj1 hf
      exact z_iret X hr hlk hP hD hS dX3_foundOut_22
    · have hf := ite_f hf c2
      refine lv_iconst (v := -1) X.1 X.2.1 dX3_foundOut_10 (by decide) ?_
      refine lv_goto (tgt := 22) X.1 X.2.1 dX3_foundOut_11 (by decide) ?_
      obtain rfl := z_inj1 hf
      exact z_iret X hr hlk hP hD hS dX3_foundOut_22
abbrev rmX3_outdate : Room := { frames := 0, cells := 0, slots := 0, locals := 0 }
set_option maxHeartbeats 4000000 in
set_option maxRecDepth 100000 in
theorem kX3_outdate (l : Launch) (D : va_G) (K : Nat → ClassId) (aH : Nat → Nat) (aR : Nat → Nat) (aP : Nat → Nat) (h0 : St) (r0 : St) (p0 : St) (pL0 : Lt) (sz : Nat)  (p_ : St) (hf : fX3_outdate h0 r0 p0 pL0 = some p_) : Met l yX3_outdate (bw (Cond.code yX3_outdate cX3_outdate 1 none)) rmX3_outdate (va_Pc [.ref (aP 0)] (zB D K sz (wbX2 K aH h0 ++ (wbX4 K (aH 0) aR r0 ++ (wbX3 K (aH 0) (aR 0) aP p0 pL0))))) (zQ (none) D (va_A (wbX2 K aH h0 ++ (wbX4 K (aH 0) aR r0 ++ (wbX3 K (aH 0) (aR 0) aP p0 pL0))) sz) (wbX2 K aH h0 ++ (wbX4 K (aH 0) aR r0 ++ (wbX3 K (aH 0) (aR 0) aP p_ pL0)))) 0 0 (va_A (wbX2 K aH h0 ++ (wbX4 K (aH 0) aR r0 ++ (wbX3 K (aH 0) (aR 0) aP p0 pL0))) sz) := by
  refine z_of (cc := cX3_outdate) (maxL := 1) (ret := none) (own := RX3) (lv := [(0, .ref (aP 0))]) (by decide) rfl rfl (Nat.le_of_ble_eq_true rfl) rfl ?_
  intro p e s m below meth c X hr hlk hK hN hsz hP hD hA hS hin ls hl
  generalize va_A (wbX2 K aH h0 ++ (wbX4 K (aH 0) aR r0 ++ (wbX3 K (aH 0) (aR 0) aP p0 pL0))) sz = A at hD hA hS hN ⊢
  have hiX3 : ∀ w ∈ u_ws RX3 TX3 7, w ∈ (bw (Cond.code yX3_outdate cX3_outdate 1 none)) := fun w h => bw_in (inlX3 w h)
  rw [fX3_outdate] at hf
  refine lv_aload_n X.1 X.2.1 dX3_outdate_0 rfl (lv_at hl 0 rfl) ?_
  refine lv_iconst (v := 0) X.1 X.2.1 dX3_outdate_1 (by decide) ?_
  obtain ⟨p1, ep1, hf⟩ := stp_e hf
  refine z_put (ws' := wbX2 K aH h0 ++ (wbX4 K (aH 0) aR r0 ++ (wbX3 K (aH 0) (aR 0) aP p1 pL0))) X hK hP hD hS hiX3 tyX3_ok nmX3 19 rfl rfl 2 (by decide) (bw_in W4_13) rfl (by decide) (by decide) (Nat.le_of_ble_eq_true rfl) dX3_outdate_2 (by rw [ep1]; rfl) (fun H locs hP hD hS => ?_)
  refine lv_aload_n X.1 X.2.1 dX3_outdate_5 rfl (lv_at hl 0 rfl) ?_
  refine lv_iconst (v := 0) X.1 X.2.1 dX3_outdate_6 (by decide) ?_
  obtain ⟨p2, ep2, hf⟩ := stp_e hf
  refine z_put (ws' := wbX2 K aH h0 ++ (wbX4 K (aH 0) aR r0 ++ (wbX3 K (aH 0) (aR 0) aP p2 pL0))) X hK hP hD hS hiX3 tyX3_ok nmX3 19 rfl rfl 6 (by decide) (bw_in W4_18) rfl rfl rfl (Nat.le_of_ble_eq_true rfl) dX3_outdate_7 (by rw [ep2]; rfl) (fun H locs hP hD hS => ?_)
  obtain rfl := z_inj1 hf
  exact z_vret X hr hlk hP hD hS dX3_outdate_10
abbrev rmX0_outdate : Room := { frames := 0, cells := 0, slots := 0, locals := 0 }
set_option maxHeartbeats 4000000 in
set_option maxRecDepth 100000 in
theorem kX0_outdate (l : Launch) (D : va_G) (K : Nat → ClassId) (aH : Nat → Nat) (aR : Nat → Nat) (aC : Nat → Nat) (h0 : St) (r0 : St) (c0 : St) (cL0 : Lt) (sz : Nat)  (c_ : St) (hf : fX0_outdate h0 r0 c0 cL0 = some c_) : Met l yX0_outdate (bw (Cond.code yX0_outdate cX0_outdate 1 none)) rmX0_outdate (va_Pc [.ref (aC 0)] (zB D K sz (wbX2 K aH h0 ++ (wbX4 K (aH 0) aR r0 ++ (wbX0 K (aH 0) (aR 0) aC c0 cL0))))) (zQ (none) D (va_A (wbX2 K aH h0 ++ (wbX4 K (aH 0) aR r0 ++ (wbX0 K (aH 0) (aR 0) aC c0 cL0))) sz) (wbX2 K aH h0 ++ (wbX4 K (aH 0) aR r0 ++ (wbX0 K (aH 0) (aR 0) aC c_ cL0)))) 0 0 (va_A (wbX2 K aH h0 ++ (wbX4 K (aH 0) aR r0 ++ (wbX0 K (aH 0) (aR 0) aC c0 cL0))) sz) := by
  refine z_of (cc := cX0_outdate) (maxL := 1) (ret := none) (own := RX0) (lv := [(0, .ref (aC 0))]) (by decide) rfl rfl (Nat.le_of_ble_eq_true rfl) rfl ?_
  intro p e s m below meth c X hr hlk hK hN hsz hP hD hA hS hin ls hl
  generalize va_A (wbX2 K aH h0 ++ (wbX4 K (aH 0) aR r0 ++ (wbX0 K (aH 0) (aR 0) aC c0 cL0))) sz = A at hD hA hS hN ⊢
  have hiX0 : ∀ w ∈ u_ws RX0 TX0 6, w ∈ (bw (Cond.code yX0_outdate cX0_outdate 1 none)) := fun w h => bw_in (inlX0 w h)
  rw [fX0_outdate] at hf
  refine lv_aload_n X.1 X.2.1 dX0_outdate_0 rfl (lv_at hl 0 rfl) ?_
  refine lv_iconst (v := 0) X.1 X.2.1 dX0_outdate_1 (by decide) ?_
  obtain ⟨c1, ec1, hf⟩ := stp_e hf
  refine z_put (ws' := wbX2 K aH h0 ++ (wbX4 K (aH 0) aR r0 ++ (wbX0 K (aH 0) (aR 0) aC c1 cL0))) X hK hP hD hS hiX0 tyX0_ok nmX0 19 rfl rfl 2 (by decide) (bw_in W5_1) rfl (by decide) (by decide) (Nat.le_of_ble_eq_true rfl) dX0_outdate_2 (by rw [ec1]; rfl) (fun H locs hP hD hS => ?_)
  obtain rfl := z_inj1 hf
  exact z_vret X hr hlk hP hD hS dX0_outdate_5
abbrev rmX0_rideAll : Room := { frames := 4, cells := 0, slots := 0, locals := 98 }
set_option maxHeartbeats 4000000 in
set_option maxRecDepth 100000 in
theorem kX0_rideAll (l : Launch) (D : va_G) (K : Nat → ClassId) (aH : Nat → Nat) (aR : Nat → Nat) (aC : Nat → Nat) (h0 : St) (r0 : St) (c0 : St) (cL0 : Lt) (sz : Nat)  (r_ : St) (c_ : St) (cL_ : Lt) (hf : fX0_rideAll h0 r0 c0 cL0 = some (r_, c_, cL_)) : Met l yX0_rideAll (bw (Cond.code yX0_rideAll cX0_rideAll 6 none)) rmX0_rideAll (va_Pc [.ref (aC 0)] (zB D K sz (wbX2 K aH h0 ++ (wbX4 K (aH 0) aR r0 ++ (wbX0 K (aH 0) (aR 0) aC c0 cL0))))) (zQ (none) D (va_A (wbX2 K aH h0 ++ (wbX4 K (aH 0) aR r0 ++ (wbX0 K (aH 0) (aR 0) aC c0 cL0))) sz) (wbX2 K aH h0 ++ (wbX4 K (aH 0) aR r_ ++ (wbX0 K (aH 0) (aR 0) aC c_ cL_)))) 0 0 (va_A (wbX2 K aH h0 ++ (wbX4 K (aH 0) aR r0 ++ (wbX0 K (aH 0) (aR 0) aC c0 cL0))) sz) := by
  refine z_of (cc := cX0_rideAll) (maxL := 6) (ret := none) (own := RX0) (lv := [(0, .ref (aC 0))]) (by decide) rfl rfl (Nat.le_of_ble_eq_true rfl) rfl ?_
  intro p e s m below meth c X hr hlk hK hN hsz hP hD hA hS hin ls hl
  generalize va_A (wbX2 K aH h0 ++ (wbX4 K (aH 0) aR r0 ++ (wbX0 K (aH 0) (aR 0) aC c0 cL0))) sz = A at hD hA hS hN ⊢
  have hiX0 : ∀ w ∈ u_ws RX0 TX0 6, w ∈ (bw (Cond.code yX0_rideAll cX0_rideAll 6 none)) := fun w h => bw_in (inlX0 w h)
  have hiX2 : ∀ w ∈ u_ws RX2 TX2 14, w ∈ (bw (Cond.code yX0_rideAll cX0_rideAll 6 none)) := fun w h => bw_in (inlX2 w h)
  have L59_1 : ∀ (rec15 : Int32 → St → St → Lt → Option (St × St × Lt)) (hrec15 : ∀ (n15_0 : Int32) (q15_R : St) (q15_C : St) (q15_CL : Lt), rec15 n15_0 q15_R q15_C q15_CL = some ((r_, c_, cL_)) → ∀ (H : Heap) (locs : List Loc), va_P D vwCl (wbX2 K aH h0 ++ (wbX4 K (aH 0) aR q15_R ++ (wbX0 K (aH 0) (aR 0) aC q15_C q15_CL))) H → va_D A (wbX2 K aH h0 ++ (wbX4 K (aH 0) aR q15_R ++ (wbX0 K (aH 0) (aR 0) aC q15_C q15_CL))) → va_S A s.heap H locs → ∀ (ls : Array Slot), lv_has ls 6 [(0, .ref (aC 0)), (1, .int n15_0)] → W p l e rmX0_rideAll s m ([.ref (aC 0)] : List Value).toArray below meth c H locs 0 0 (MQ below (zQ (none) D A (wbX2 K aH h0 ++ (wbX4 K (aH 0) aR r_ ++ (wbX0 K (aH 0) (aR 0) aC c_ cL_)))) ([.ref (aC 0)] : List Value).toArray s 0 0 A) (F0 m 15 ls [])), ∀ (n : Nat), ∀ (n59_0 : Int32) (n59_1 : Int64) (n59_2 : Int32) (q59_R : St) (q59_C : St) (q59_CL : Lt), fX0_rideAll_59 h0 rec15 n n59_0 n59_1 n59_2 q59_R q59_C q59_CL = some ((r_, c_, cL_)) → ∀ (H : Heap) (locs : List Loc), va_P D vwCl (wbX2 K aH h0 ++ (wbX4 K (aH 0) aR q59_R ++ (wbX0 K (aH 0) (aR 0) aC q59_C q59_CL))) H → va_D A (wbX2 K aH h0 ++ (wbX4 K (aH 0) aR q59_R ++ (wbX0 K (aH 0) (aR 0) aC q59_C q59_CL))) → va_S A s.heap H locs → ∀ (ls : Array Slot), lv_has ls 6 [(0, .ref (aC 0)), (1, .int n59_0), (2, .long n59_1), (4, .int n59_2)] → W p l e rmX0_rideAll s m ([.ref (aC 0)] : List Value).toArray below meth c H locs 0 0 (MQ below (zQ (none) D A (wbX2 K aH h0 ++ (wbX4 K (aH 0) aR r_ ++ (wbX0 K (aH 0) (aR 0) aC c_ cL_)))) ([.ref (aC 0)] : List Value).toArray s 0 0 A) (F0 m 59 ls []) := by
    intro rec15 hrec15 n
    induction n with
    | zero =>
      intro n59_0 n59_1 n59_2 q59_R q59_C q59_CL hf
      rw [fX0_rideAll_59] at hf
      cases hf
    | succ n ih =>
      intro n59_0 n59_1 n59_2 q59_R q59_C q59_CL hf H locs hP hD hS ls hl
      rw [fX0_rideAll_59] at hf
      refine lv_iload X.1 X.2.1 dX0_rideAll_59 (lv_at hl 3 rfl) ?_
      refine lv_aload_n X.1 X.2.1 dX0_rideAll_61 rfl (lv_at hl 0 rfl) ?_
      refine z_get X hK hP hiX0 19 rfl rfl 0 (by decide) (bw_in W5_5) rfl dX0_rideAll_62 ?_
      refine z_get X hK hP hiX2 0 rfl rfl 2 (by decide) (bw_in W36_15) rfl dX0_rideAll_65 ?_
      refine lv_icmp_ge (tgt := 112) X.1 X.2.1 dX0_rideAll_68 (by decide) (fun c9 => ?_) (fun c9 => ?_)
      · have hf := ite_t hf c9
        refine lv_aload_n X.1 X.2.1 dX0_rideAll_112 rfl (lv_at hl 0 rfl) ?_
        refine z_get X hK hP hiX0 19 rfl rfl 3 (by decide) (bw_in W5_2) rfl dX0_rideAll_113 ?_
        refine lv_iload_n X.1 X.2.1 dX0_rideAll_116 rfl (lv_at hl 1 rfl) ?_
        refine lv_lload_n X.1 X.2.1 dX0_rideAll_117 rfl (lv_at hl 2 rfl) ?_
        obtain ⟨hi10, hf⟩ := chk_e hf
        obtain ⟨cL11, ecL11, hf⟩ := stp_e hf
        refine z_last (ws' := wbX2 K aH h0 ++ (wbX4 K (aH 0) aR q59_R ++ (wbX0 K (aH 0) (aR 0) aC q59_C cL11))) X hK hP hD hS 20 rfl hi10 dX0_rideAll_118 (by rw [ecL11]; rfl) (fun H locs hP hD hS => ?_)
        obtain ⟨w12, ew12, hf⟩ := stp_e hf
        refine lv_iinc (v := w12) (lv' := [(1, .int w12), (0, .ref (aC 0)), (2, .long n59_1), (4, .int n59_2)]) X.1 X.2.1 dX0_rideAll_119 hl (k := 1) rfl (by rw [ew12]; rfl) (by decide) rfl (fun ls hl => ?_)
        refine lv_goto (tgt := 15) X.1 X.2.1 dX0_rideAll_122 (by decide) ?_
        exact hrec15 _ _ _ _ hf _ _ hP hD hS _ (lv_sub hl [1, 0] rfl)
      · have hf := ite_f hf c9
        refine lv_aload_n X.1 X.2.1 dX0_rideAll_71 rfl (lv_at hl 0 rfl) ?_
        refine z_get X hK hP hiX0 19 rfl rfl 1 (by decide) (bw_in W5_6) rfl dX0_rideAll_72 ?_
        refine lv_iload X.1 X.2.1 dX0_rideAll_75 (lv_at hl 3 rfl) ?_
        obtain ⟨r13, hc14, hf⟩ := bd1_e hf
        refine z_V (n := 1) (As := [.int n59_2]) (rest := []) (ci := 4) (q0 := 9) X hK hN (kX4_arrivesBehind l D K aH aR h0 q59_R _ n59_2 r13 hc14) (bw_V W36_18 W23_4 W23_5 W1_22 W23_6) rfl ⟨rfl, rfl⟩ (by decide +kernel) rfl ⟨Nat.le_of_ble_eq_true rfl, Nat.le_of_ble_eq_true rfl⟩ (hP.sub [0, 1, 2, 3, 4, 5, 6, 7, 8, 9, 10, 11, 12, 13, 14, 15, 16, 17, 18] rfl) (hD.sub [0, 1, 2, 3, 4, 5, 6, 7, 8, 9, 10, 11, 12, 13, 14, 15, 16, 17, 18] (by decide) rfl) rfl rfl (zj_sub (ws' := wbX2 K aH h0 ++ (wbX4 K (aH 0) aR q59_R ++ (wbX0 K (aH 0) (aR 0) aC q59_C q59_CL))) hP hD hS hA [0, 1, 2, 3, 4, 5, 6, 7, 8, 9, 10, 11, 12, 13, 14, 15, 16, 17, 18] [19, 20] [2, 3, 4, 5, 6, 7, 8, 9, 10, 11, 12, 13, 14, 15, 16, 17, 18, 19, 20, 0, 1] rfl rfl (by decide) (by decide) (by decide) rfl) hS hl.1 rfl (Nat.le_of_ble_eq_true rfl) dX0_rideAll_77 ⟨Nat.zero_le _, Nat.zero_le _⟩ rfl (fun H locs hP hD hS => ?_)
        refine lv_istore (lv' := [(5, .int r13), (0, .ref (aC 0)), (1, .int n59_0), (2, .long n59_1), (4, .int n59_2)]) X.1 X.2.1 dX0_rideAll_80 hl (by decide) rfl (fun ls hl => ?_)
        refine lv_lload_n X.1 X.2.1 dX0_rideAll_82 rfl (lv_at hl 3 rfl) ?_
        refine lv_iload X.1 X.2.1 dX0_rideAll_83 (lv_at hl 0 rfl) ?_
        refine lv_iconst (v := -1) X.1 X.2.1 dX0_rideAll_85 (by decide) ?_
        refine lv_icmp_ne (tgt := 95) X.1 X.2.1 dX0_rideAll_86 (by decide) (fun c15 => ?_) (fun c15 => ?_)
        · have hf := ite_f hf c15
          refine lv_iload X.1 X.2.1 dX0_rideAll_95 (lv_at hl 0 rfl) ?_
          refine lv_i2l X.1 X.2.1 dX0_rideAll_97 rfl ?_
          refine lv_bipush (v := 8) X.1 X.2.1 dX0_rideAll_98 (by decide) ?_
          refine lv_iload X.1 X.2.1 dX0_rideAll_100 (lv_at hl 4 rfl) ?_
          refine lv_imul X.1 X.2.1 dX0_rideAll_102 ?_
          refine lv_lshl X.1 X.2.1 dX0_rideAll_103 rfl ?_
          refine lv_lor X.1 X.2.1 dX0_rideAll_104 ?_
          obtain ⟨w16, ew16, hf⟩ := stp_e hf
          refine z_topl ew16 ?_
          refine lv_lstore_n (lv' := [(2, .long w16), (5, .int r13), (0, .ref (aC 0)), (1, .int n59_0), (4, .int n59_2)]) X.1 X.2.1 dX0_rideAll_105 rfl hl (by decide) rfl (fun ls hl => ?_)
          obtain ⟨w17, ew17, hf⟩ := stp_e hf
          refine lv_iinc (v := w17) (lv' := [(4, .int w17), (2, .long w16), (5, .int r13), (0, .ref (aC 0)), (1, .int n59_0)]) X.1 X.2.1 dX0_rideAll_106 hl (k := 4) rfl (by rw [ew17]; rfl) (by decide) rfl (fun ls hl => ?_)
          refine lv_goto (tgt := 59) X.1 X.2.1 dX0_rideAll_109 (by decide) ?_
          exact ih _ _ _ _ _ _ hf _ _ hP hD hS _ (lv_sub hl [3, 4, 1, 0] rfl)
        · have hf := ite_t hf c15
          refine lv_sipush (v := 255) X.1 X.2.1 dX0_rideAll_89 (by decide) ?_
          refine lv_goto (tgt := 97) X.1 X.2.1 dX0_rideAll_92 (by decide) ?_
          refine lv_i2l X.1 X.2.1 dX0_rideAll_97 rfl ?_
          refine lv_bipush (v := 8) X.1 X.2.1 dX0_rideAll_98 (by decide) ?_
          refine lv_iload X.1 X.2.1 dX0_rideAll_100 (lv_at hl 4 rfl) ?_
          refine lv_imul X.1 X.2.1 dX0_rideAll_102 ?_
          refine lv_lshl X.1 X.2.1 dX0_rideAll_103 rfl ?_
          refine lv_lor X.1 X.2.1 dX0_rideAll_104 ?_
          obtain ⟨w18, ew18, hf⟩ := stp_e hf
          refine z_topl ew18 ?_
          refine lv_lstore_n (lv' := [(2, .long w18), (5, .int r13), (0, .ref (aC 0)), (1, .int n59_0), (4, .int n59_2)]) X.1 X.2.1 dX0_rideAll_105 rfl hl (by decide) rfl (fun ls hl => ?_)
          obtain ⟨w19, ew19, hf⟩ := stp_e hf
          refine lv_iinc (v := w19) (lv' := [(4, .int w19), (2, .long w18), (5, .int r13), (0, .ref (aC 0)), (1, .int n59_0)]) X.1 X.2.1 dX0_rideAll_106 hl (k := 4) rfl (by rw [ew19]; rfl) (by decide) rfl (fun ls hl => ?_)
          refine lv_goto (tgt := 59) X.1 X.2.1 dX0_rideAll_109 (by decide) ?_
          exact ih _ _ _ _ _ _ hf _ _ hP hD hS _ (lv_sub hl [3, 4, 1, 0] rfl)
  have L15_0 : ∀ (n : Nat), ∀ (n15_0 : Int32) (q15_R : St) (q15_C : St) (q15_CL : Lt), fX0_rideAll_15 h0 n n15_0 q15_R q15_C q15_CL = some ((r_, c_, cL_)) → ∀ (H : Heap) (locs : List Loc), va_P D vwCl (wbX2 K aH h0 ++ (wbX4 K (aH 0) aR q15_R ++ (wbX0 K (aH 0) (aR 0) aC q15_C q15_CL))) H → va_D A (wbX2 K aH h0 ++ (wbX4 K (aH 0) aR q15_R ++ (wbX0 K (aH 0) (aR 0) aC q15_C q15_CL))) → va_S A s.heap H locs → ∀ (ls : Array Slot), lv_has ls 6 [(0, .ref (aC 0)), (1, .int n15_0)] → W p l e rmX0_rideAll s m ([.ref (aC 0)] : List Value).toArray below meth c H locs 0 0 (MQ below (zQ (none) D A (wbX2 K aH h0 ++ (wbX4 K (aH 0) aR r_ ++ (wbX0 K (aH 0) (aR 0) aC c_ cL_)))) ([.ref (aC 0)] : List Value).toArray s 0 0 A) (F0 m 15 ls []) := by
    intro n
    induction n with
    | zero =>
      intro n15_0 q15_R q15_C q15_CL hf
      rw [fX0_rideAll_15] at hf
      cases hf
    | succ n ih =>
      intro n15_0 q15_R q15_C q15_CL hf H locs hP hD hS ls hl
      rw [fX0_rideAll_15] at hf
      refine lv_iload_n X.1 X.2.1 dX0_rideAll_15 rfl (lv_at hl 1 rfl) ?_
      refine lv_iconst (v := 1) X.1 X.2.1 dX0_rideAll_16 (by decide) ?_
      refine lv_aload_n X.1 X.2.1 dX0_rideAll_17 rfl (lv_at hl 0 rfl) ?_
      refine z_get X hK hP hiX0 19 rfl rfl 0 (by decide) (bw_in W5_5) rfl dX0_rideAll_18 ?_
      refine z_get X hK hP hiX2 0 rfl rfl 3 (by decide) (bw_in W36_10) rfl dX0_rideAll_21 ?_
      refine lv_ishl X.1 X.2.1 dX0_rideAll_24 ?_
      refine lv_icmp_ge (tgt := 125) X.1 X.2.1 dX0_rideAll_25 (by decide) (fun c3 => ?_) (fun c3 => ?_)
      · have hf := ite_t hf c3
        obtain ⟨rfl, rfl, rfl⟩ := z_inj3 hf
        exact z_vret X hr hlk hP hD hS dX0_rideAll_125
      · have hf := ite_f hf c3
        refine lv_iload_n X.1 X.2.1 dX0_rideAll_28 rfl (lv_at hl 1 rfl) ?_
        refine lv_aload_n X.1 X.2.1 dX0_rideAll_29 rfl (lv_at hl 0 rfl) ?_
        refine z_get X hK hP hiX0 19 rfl rfl 3 (by decide) (bw_in W5_2) rfl dX0_rideAll_30 ?_
        refine z_alen (v := 256) X hK hP 20 1 rfl rfl rfl dX0_rideAll_33 ?_
        refine lv_icmp_ge (tgt := 125) X.1 X.2.1 dX0_rideAll_34 (by decide) (fun c4 => ?_) (fun c4 => ?_)
        · have hf := ite_t hf c4
          obtain ⟨rfl, rfl, rfl⟩ := z_inj3 hf
          exact z_vret X hr hlk hP hD hS dX0_rideAll_125
        · have hf := ite_f hf c4
          refine lv_aload_n X.1 X.2.1 dX0_rideAll_37 rfl (lv_at hl 0 rfl) ?_
          refine z_get X hK hP hiX0 19 rfl rfl 1 (by decide) (bw_in W5_6) rfl dX0_rideAll_38 ?_
          refine lv_iload_n X.1 X.2.1 dX0_rideAll_41 rfl (lv_at hl 1 rfl) ?_
          obtain ⟨r5, hc6, hf⟩ := bd1_e hf
          refine z_V (n := 1) (As := [.int n15_0]) (rest := []) (ci := 4) (q0 := 9) X hK hN (kX4_begin l D K aH aR h0 q15_R _ n15_0 r5 hc6) (bw_V W36_16 W13_8 W13_9 W1_22 W13_10) rfl ⟨rfl, rfl⟩ (by decide +kernel) rfl ⟨Nat.le_of_ble_eq_true rfl, Nat.le_of_ble_eq_true rfl⟩ (hP.sub [0, 1, 2, 3, 4, 5, 6, 7, 8, 9, 10, 11, 12, 13, 14, 15, 16, 17, 18] rfl) (hD.sub [0, 1, 2, 3, 4, 5, 6, 7, 8, 9, 10, 11, 12, 13, 14, 15, 16, 17, 18] (by decide) rfl) rfl rfl (zj_sub (ws' := wbX2 K aH h0 ++ (wbX4 K (aH 0) aR r5 ++ (wbX0 K (aH 0) (aR 0) aC q15_C q15_CL))) hP hD hS hA [0, 1, 2, 3, 4, 5, 6, 7, 8, 9, 10, 11, 12, 13, 14, 15, 16, 17, 18] [19, 20] [2, 3, 4, 5, 6, 7, 8, 9, 10, 11, 12, 13, 14, 15, 16, 17, 18, 19, 20, 0, 1] rfl rfl (by decide) (by decide) (by decide) rfl) hS hl.1 rfl (Nat.le_of_ble_eq_true rfl) dX0_rideAll_42 ⟨Nat.zero_le _, Nat.zero_le _⟩ rfl (fun H locs hP hD hS => ?_)
          refine lv_aload_n X.1 X.2.1 dX0_rideAll_45 rfl (lv_at hl 0 rfl) ?_
          refine z_get X hK hP hiX0 19 rfl rfl 1 (by decide) (bw_in W5_6) rfl dX0_rideAll_46 ?_
          refine lv_iconst (v := -1) X.1 X.2.1 dX0_rideAll_49 (by decide) ?_
          refine lv_iconst (v := -1) X.1 X.2.1 dX0_rideAll_50 (by decide) ?_
          obtain ⟨r7, hc8, hf⟩ := bd1_e hf
          refine z_V (n := 2) (As := [.int ((-1)), .int ((-1))]) (rest := []) (ci := 4) (q0 := 9) X hK hN (kX4_goToStops l D K aH aR h0 r5 _ ((-1)) ((-1)) r7 hc8) (bw_V W36_17 W13_23 W14_0 W1_22 W14_1) rfl ⟨rfl, rfl⟩ (by decide +kernel) rfl ⟨Nat.le_of_ble_eq_true rfl, Nat.le_of_ble_eq_true rfl⟩ (hP.sub [0, 1, 2, 3, 4, 5, 6, 7, 8, 9, 10, 11, 12, 13, 14, 15, 16, 17, 18] rfl) (hD.sub [0, 1, 2, 3, 4, 5, 6, 7, 8, 9, 10, 11, 12, 13, 14, 15, 16, 17, 18] (by decide) rfl) rfl rfl (zj_sub (ws' := wbX2 K aH h0 ++ (wbX4 K (aH 0) aR r7 ++ (wbX0 K (aH 0) (aR 0) aC q15_C q15_CL))) hP hD hS hA [0, 1, 2, 3, 4, 5, 6, 7, 8, 9, 10, 11, 12, 13, 14, 15, 16, 17, 18] [19, 20] [2, 3, 4, 5, 6, 7, 8, 9, 10, 11, 12, 13, 14, 15, 16, 17, 18, 19, 20, 0, 1] rfl rfl (by decide) (by decide) (by decide) rfl) hS hl.1 rfl (Nat.le_of_ble_eq_true rfl) dX0_rideAll_51 ⟨Nat.zero_le _, Nat.zero_le _⟩ rfl (fun H locs hP hD hS => ?_)
          refine lv_lconst (v := 0) X.1 X.2.1 dX0_rideAll_54 rfl ?_
          refine lv_lstore_n (lv' := [(2, .long 0), (0, .ref (aC 0)), (1, .int n15_0)]) X.1 X.2.1 dX0_rideAll_55 rfl hl (by decide) rfl (fun ls hl => ?_)
          refine lv_iconst (v := 0) X.1 X.2.1 dX0_rideAll_56 (by decide) ?_
          refine lv_istore (lv' := [(4, .int 0), (2, .long 0), (0, .ref (aC 0)), (1, .int n15_0)]) X.1 X.2.1 dX0_rideAll_57 hl (by decide) rfl (fun ls hl => ?_)
          exact L59_1 _ ih _ _ _ _ _ _ _ hf _ _ hP hD hS _ (lv_sub hl [2, 3, 1, 0] rfl)
  rw [fX0_rideAll] at hf
  refine lv_aload_n X.1 X.2.1 dX0_rideAll_0 rfl (lv_at hl 0 rfl) ?_
  refine z_get X hK hP hiX0 19 rfl rfl 2 (by decide) (bw_in W5_1) rfl dX0_rideAll_1 ?_
  refine lv_if_eq (tgt := 8) X.1 X.2.1 dX0_rideAll_4 (by decide) (fun c1 => ?_) (fun c1 => ?_)
  · have hf := ite_t hf c1
    refine lv_aload_n X.1 X.2.1 dX0_rideAll_8 rfl (lv_at hl 0 rfl) ?_
    refine lv_iconst (v := 1) X.1 X.2.1 dX0_rideAll_9 (by decide) ?_
    obtain ⟨c2, ec2, hf⟩ := stp_e hf
    refine z_put (ws' := wbX2 K aH h0 ++ (wbX4 K (aH 0) aR r0 ++ (wbX0 K (aH 0) (aR 0) aC c2 cL0))) X hK hP hD hS hiX0 tyX0_ok nmX0 19 rfl rfl 2 (by decide) (bw_in W5_1) rfl (by decide) (by decide) (Nat.le_of_ble_eq_true rfl) dX0_rideAll_10 (by rw [ec2]; rfl) (fun H locs hP hD hS => ?_)
    refine lv_iconst (v := 0) X.1 X.2.1 dX0_rideAll_13 (by decide) ?_
    refine lv_istore_n (lv' := [(1, .int 0), (0, .ref (aC 0))]) X.1 X.2.1 dX0_rideAll_14 rfl hl (by decide) rfl (fun ls hl => ?_)
    exact L15_0  _ _ _ _ _ hf _ _ hP hD hS _ (lv_sub hl [1, 0] rfl)
  · have hf := ite_f hf c1
    obtain ⟨rfl, rfl, rfl⟩ := z_inj3 hf
    exact z_vret X hr hlk hP hD hS dX0_rideAll_7
abbrev rmX0_shorten : Room := { frames := 0, cells := 0, slots := 0, locals := 0 }
set_option maxHeartbeats 4000000 in
set_option maxRecDepth 100000 in
theorem kX0_shorten (l : Launch) (D : va_G) (K : Nat → ClassId) (aH : Nat → Nat) (aR : Nat → Nat) (aC : Nat → Nat) (h0 : St) (r0 : St) (c0 : St) (cL0 : Lt) (sz : Nat)  (cL_ : Lt) (hf : fX0_shorten h0 r0 c0 cL0 = some cL_) : Met l yX0_shorten (bw (Cond.code yX0_shorten cX0_shorten 2 none)) rmX0_shorten (va_Pc [.ref (aC 0)] (zB D K sz (wbX2 K aH h0 ++ (wbX4 K (aH 0) aR r0 ++ (wbX0 K (aH 0) (aR 0) aC c0 cL0))))) (zQ (none) D (va_A (wbX2 K aH h0 ++ (wbX4 K (aH 0) aR r0 ++ (wbX0 K (aH 0) (aR 0) aC c0 cL0))) sz) (wbX2 K aH h0 ++ (wbX4 K (aH 0) aR r0 ++ (wbX0 K (aH 0) (aR 0) aC c0 cL_)))) 0 0 (va_A (wbX2 K aH h0 ++ (wbX4 K (aH 0) aR r0 ++ (wbX0 K (aH 0) (aR 0) aC c0 cL0))) sz) := by
  refine z_of (cc := cX0_shorten) (maxL := 2) (ret := none) (own := RX0) (lv := [(0, .ref (aC 0))]) (by decide) rfl rfl (Nat.le_of_ble_eq_true rfl) rfl ?_
  intro p e s m below meth c X hr hlk hK hN hsz hP hD hA hS hin ls hl
  generalize va_A (wbX2 K aH h0 ++ (wbX4 K (aH 0) aR r0 ++ (wbX0 K (aH 0) (aR 0) aC c0 cL0))) sz = A at hD hA hS hN ⊢
  have hiX0 : ∀ w ∈ u_ws RX0 TX0 6, w ∈ (bw (Cond.code yX0_shorten cX0_shorten 2 none)) := fun w h => bw_in (inlX0 w h)
  have L16_0 : ∀ (n : Nat), ∀ (n16_0 : Int32) (q16_CL : Lt), fX0_shorten_16 h0 r0 c0 n n16_0 q16_CL = some cL_ → ∀ (H : Heap) (locs : List Loc), va_P D vwCl (wbX2 K aH h0 ++ (wbX4 K (aH 0) aR r0 ++ (wbX0 K (aH 0) (aR 0) aC c0 q16_CL))) H → va_D A (wbX2 K aH h0 ++ (wbX4 K (aH 0) aR r0 ++ (wbX0 K (aH 0) (aR 0) aC c0 q16_CL))) → va_S A s.heap H locs → ∀ (ls : Array Slot), lv_has ls 2 [(0, .ref (aC 0)), (1, .int n16_0)] → W p l e rmX0_shorten s m ([.ref (aC 0)] : List Value).toArray below meth c H locs 0 0 (MQ below (zQ (none) D A (wbX2 K aH h0 ++ (wbX4 K (aH 0) aR r0 ++ (wbX0 K (aH 0) (aR 0) aC c0 cL_)))) ([.ref (aC 0)] : List Value).toArray s 0 0 A) (F0 m 16 ls []) := by
    intro n
    induction n with
    | zero =>
      intro n16_0 q16_CL hf
      rw [fX0_shorten_16] at hf
      cases hf
    | succ n ih =>
      intro n16_0 q16_CL hf H locs hP hD hS ls hl
      rw [fX0_shorten_16] at hf
      refine lv_iload_n X.1 X.2.1 dX0_shorten_16 rfl (lv_at hl 1 rfl) ?_
      refine lv_bipush (v := 32) X.1 X.2.1 dX0_shorten_17 (by decide) ?_
      refine lv_icmp_ge (tgt := 74) X.1 X.2.1 dX0_shorten_19 (by decide) (fun c2 => ?_) (fun c2 => ?_)
      · have hf := ite_t hf c2
        obtain rfl := z_inj1 hf
        exact z_vret X hr hlk hP hD hS dX0_shorten_74
      · have hf := ite_f hf c2
        refine lv_aload_n X.1 X.2.1 dX0_shorten_22 rfl (lv_at hl 0 rfl) ?_
        refine z_get X hK hP hiX0 19 rfl rfl 5 (by decide) (bw_in W5_4) rfl dX0_shorten_23 ?_
        refine lv_lconst (v := 1) X.1 X.2.1 dX0_shorten_26 rfl ?_
        refine W.lcmp X.1 X.2.1 dX0_shorten_27 ?_
        refine lv_if_le (tgt := 74) X.1 X.2.1 dX0_shorten_28 (by decide) (fun c3 => ?_) (fun c3 => ?_)
        · have hf := ite_t hf c3
          obtain rfl := z_inj1 hf
          exact z_vret X hr hlk hP hD hS dX0_shorten_74
        · have hf := ite_f hf c3
          refine lv_aload_n X.1 X.2.1 dX0_shorten_31 rfl (lv_at hl 0 rfl) ?_
          refine z_get X hK hP hiX0 19 rfl rfl 4 (by decide) (bw_in W5_3) rfl dX0_shorten_32 ?_
          refine lv_ldc2 (v := 2) X.1 X.2.1 X.2.2.2.1 (X.2.2.2.2 _ (bw_in W37_3)) dX0_shorten_35 ?_
          refine lv_lrem X.1 X.2.1 dX0_shorten_38 (by decide) ?_
          refine lv_lconst (v := 0) X.1 X.2.1 dX0_shorten_39 rfl ?_
          refine W.lcmp X.1 X.2.1 dX0_shorten_40 ?_
          refine lv_if_ne (tgt := 74) X.1 X.2.1 dX0_shorten_41 (by decide) (fun c4 => ?_) (fun c4 => ?_)
          · have hf := ite_f hf c4
            obtain rfl := z_inj1 hf
            exact z_vret X hr hlk hP hD hS dX0_shorten_74
          · have hf := ite_t hf c4
            refine lv_aload_n X.1 X.2.1 dX0_shorten_44 rfl (lv_at hl 0 rfl) ?_
            refine lv_dup X.1 X.2.1 dX0_shorten_45 rfl ?_
            refine z_get X hK hP hiX0 19 rfl rfl 4 (by decide) (bw_in W5_3) rfl dX0_shorten_46 ?_
            refine lv_ldc2 (v := 2) X.1 X.2.1 X.2.2.2.1 (X.2.2.2.2 _ (bw_in W37_3)) dX0_shorten_49 ?_
            refine lv_ldiv X.1 X.2.1 dX0_shorten_52 (by decide) ?_
            obtain ⟨cL5, ecL5, hf⟩ := stp_e hf
            refine z_put (ws' := wbX2 K aH h0 ++ (wbX4 K (aH 0) aR r0 ++ (wbX0 K (aH 0) (aR 0) aC c0 cL5))) X hK hP hD hS hiX0 tyX0_ok nmX0 19 rfl rfl 4 (by decide) (bw_in W5_3) rfl rfl rfl (Nat.le_of_ble_eq_true rfl) dX0_shorten_53 (by rw [ecL5]; rfl) (fun H locs hP hD hS => ?_)
            refine lv_aload_n X.1 X.2.1 dX0_shorten_56 rfl (lv_at hl 0 rfl) ?_
            refine lv_dup X.1 X.2.1 dX0_shorten_57 rfl ?_
            refine z_get X hK hP hiX0 19 rfl rfl 5 (by decide) (bw_in W5_4) rfl dX0_shorten_58 ?_
            refine lv_ldc2 (v := 2) X.1 X.2.1 X.2.2.2.1 (X.2.2.2.2 _ (bw_in W37_3)) dX0_shorten_61 ?_
            refine lv_ldiv X.1 X.2.1 dX0_shorten_64 (by decide) ?_
            obtain ⟨cL6, ecL6, hf⟩ := stp_e hf
            refine z_put (ws' := wbX2 K aH h0 ++ (wbX4 K (aH 0) aR r0 ++ (wbX0 K (aH 0) (aR 0) aC c0 cL6))) X hK hP hD hS hiX0 tyX0_ok nmX0 19 rfl rfl 5 (by decide) (bw_in W5_4) rfl rfl rfl (Nat.le_of_ble_eq_true rfl) dX0_shorten_65 (by rw [ecL6]; rfl) (fun H locs hP hD hS => ?_)
            obtain ⟨w7, ew7, hf⟩ := stp_e hf
            refine lv_iinc (v := w7) (lv' := [(1, .int w7), (0, .ref (aC 0))]) X.1 X.2.1 dX0_shorten_68 hl (k := 1) rfl (by rw [ew7]; rfl) (by decide) rfl (fun ls hl => ?_)
            refine lv_goto (tgt := 16) X.1 X.2.1 dX0_shorten_71 (by decide) ?_
            exact ih _ _ hf _ _ hP hD hS _ (lv_sub hl [1, 0] rfl)
  rw [fX0_shorten] at hf
  refine lv_aload_n X.1 X.2.1 dX0_shorten_0 rfl (lv_at hl 0 rfl) ?_
  refine z_get X hK hP hiX0 19 rfl rfl 4 (by decide) (bw_in W5_3) rfl dX0_shorten_1 ?_
  refine lv_lconst (v := 0) X.1 X.2.1 dX0_shorten_4 rfl ?_
  refine W.lcmp X.1 X.2.1 dX0_shorten_5 ?_
  refine lv_if_ne (tgt := 14) X.1 X.2.1 dX0_shorten_6 (by decide) (fun c1 => ?_) (fun c1 => ?_)
  · have hf := ite_f hf c1
    refine lv_iconst (v := 0) X.1 X.2.1 dX0_shorten_14 (by decide) ?_
    refine lv_istore_n (lv' := [(1, .int 0), (0, .ref (aC 0))]) X.1 X.2.1 dX0_shorten_15 rfl hl (by decide) rfl (fun ls hl => ?_)
    exact L16_0  _ _ _ hf _ _ hP hD hS _ (lv_sub hl [1, 0] rfl)
  · have hf := ite_t hf c1
    refine lv_aload_n X.1 X.2.1 dX0_shorten_9 rfl (lv_at hl 0 rfl) ?_
    refine lv_lconst (v := 1) X.1 X.2.1 dX0_shorten_10 rfl ?_
    obtain ⟨cL8, ecL8, hf⟩ := stp_e hf
    refine z_put (ws' := wbX2 K aH h0 ++ (wbX4 K (aH 0) aR r0 ++ (wbX0 K (aH 0) (aR 0) aC c0 cL8))) X hK hP hD hS hiX0 tyX0_ok nmX0 19 rfl rfl 5 (by decide) (bw_in W5_4) rfl rfl rfl (Nat.le_of_ble_eq_true rfl) dX0_shorten_11 (by rw [ecL8]; rfl) (fun H locs hP hD hS => ?_)
    refine lv_iconst (v := 0) X.1 X.2.1 dX0_shorten_14 (by decide) ?_
    refine lv_istore_n (lv' := [(1, .int 0), (0, .ref (aC 0))]) X.1 X.2.1 dX0_shorten_15 rfl hl (by decide) rfl (fun ls hl => ?_)
    exact L16_0  _ _ _ hf _ _ hP hD hS _ (lv_sub hl [1, 0] rfl)
abbrev rmX0_weightOf : Room := { frames := 1, cells := 0, slots := 0, locals := 21 }
set_option maxHeartbeats 4000000 in
set_option maxRecDepth 100000 in
theorem kX0_weightOf (l : Launch) (D : va_G) (K : Nat → ClassId) (aH : Nat → Nat) (aR : Nat → Nat) (aC : Nat → Nat) (h0 : St) (r0 : St) (c0 : St) (cL0 : Lt) (sz : Nat) (x1 : Int32) (x2 : Int32) (q_ : Int64) (hf : fX0_weightOf h0 r0 c0 cL0 x1 x2 = some q_) : Met l yX0_weightOf (bw (Cond.code yX0_weightOf cX0_weightOf 6 (some .long))) rmX0_weightOf (va_Pc [.ref (aC 0), .int x1, .int x2] (zB D K sz (wbX2 K aH h0 ++ (wbX4 K (aH 0) aR r0 ++ (wbX0 K (aH 0) (aR 0) aC c0 cL0))))) (zQ (some (.long q_)) D (va_A (wbX2 K aH h0 ++ (wbX4 K (aH 0) aR r0 ++ (wbX0 K (aH 0) (aR 0) aC c0 cL0))) sz) (wbX2 K aH h0 ++ (wbX4 K (aH 0) aR r0 ++ (wbX0 K (aH 0) (aR 0) aC c0 cL0)))) 0 0 (va_A (wbX2 K aH h0 ++ (wbX4 K (aH 0) aR r0 ++ (wbX0 K (aH 0) (aR 0) aC c0 cL0))) sz) := by
  refine z_of (cc := cX0_weightOf) (maxL := 6) (ret := (some .long)) (own := RX0) (lv := [(0, .ref (aC 0)), (1, .int x1), (2, .int x2)]) (by decide) rfl rfl (Nat.le_of_ble_eq_true rfl) rfl ?_
  intro p e s m below meth c X hr hlk hK hN hsz hP hD hA hS hin ls hl
  generalize va_A (wbX2 K aH h0 ++ (wbX4 K (aH 0) aR r0 ++ (wbX0 K (aH 0) (aR 0) aC c0 cL0))) sz = A at hD hA hS hN ⊢
  have hiX0 : ∀ w ∈ u_ws RX0 TX0 6, w ∈ (bw (Cond.code yX0_weightOf cX0_weightOf 6 (some .long))) := fun w h => bw_in (inlX0 w h)
  have hiX2 : ∀ w ∈ u_ws RX2 TX2 14, w ∈ (bw (Cond.code yX0_weightOf cX0_weightOf 6 (some .long))) := fun w h => bw_in (inlX2 w h)
  have L5_0 : ∀ (n : Nat), ∀ (n5_0 : Int32) (n5_1 : Int32) (n5_2 : Int64) (n5_3 : Int32) , fX0_weightOf_5 h0 r0 c0 cL0 n n5_0 n5_1 n5_2 n5_3 = some q_ → ∀ (H : Heap) (locs : List Loc), va_P D vwCl (wbX2 K aH h0 ++ (wbX4 K (aH 0) aR r0 ++ (wbX0 K (aH 0) (aR 0) aC c0 cL0))) H → va_D A (wbX2 K aH h0 ++ (wbX4 K (aH 0) aR r0 ++ (wbX0 K (aH 0) (aR 0) aC c0 cL0))) → va_S A s.heap H locs → ∀ (ls : Array Slot), lv_has ls 6 [(0, .ref (aC 0)), (1, .int n5_0), (2, .int n5_1), (3, .long n5_2), (5, .int n5_3)] → W p l e rmX0_weightOf s m ([.ref (aC 0), .int x1, .int x2] : List Value).toArray below meth c H locs 0 0 (MQ below (zQ (some (.long q_)) D A (wbX2 K aH h0 ++ (wbX4 K (aH 0) aR r0 ++ (wbX0 K (aH 0) (aR 0) aC c0 cL0)))) ([.ref (aC 0), .int x1, .int x2] : List Value).toArray s 0 0 A) (F0 m 5 ls []) := by
    intro n
    induction n with
    | zero =>
      intro n5_0 n5_1 n5_2 n5_3  hf
      rw [fX0_weightOf_5] at hf
      cases hf
    | succ n ih =>
      intro n5_0 n5_1 n5_2 n5_3  hf H locs hP hD hS ls hl
      rw [fX0_weightOf_5] at hf
      refine lv_iload X.1 X.2.1 dX0_weightOf_5 (lv_at hl 4 rfl) ?_
      refine lv_aload_n X.1 X.2.1 dX0_weightOf_7 rfl (lv_at hl 0 rfl) ?_
      refine z_get X hK hP hiX0 19 rfl rfl 0 (by decide) (bw_in W5_5) rfl dX0_weightOf_8 ?_
      refine z_get X hK hP hiX2 0 rfl rfl 3 (by decide) (bw_in W36_10) rfl dX0_weightOf_11 ?_
      refine lv_icmp_ge (tgt := 45) X.1 X.2.1 dX0_weightOf_14 (by decide) (fun c1 => ?_) (fun c1 => ?_)
      · have hf := ite_t hf c1
        refine lv_lload_n X.1 X.2.1 dX0_weightOf_45 rfl (lv_at hl 3 rfl) ?_
        obtain rfl := z_inj1 hf
        exact z_lret X hr hlk hP hD hS dX0_weightOf_46
      · have hf := ite_f hf c1
        refine lv_lload_n X.1 X.2.1 dX0_weightOf_17 rfl (lv_at hl 3 rfl) ?_
        refine lv_iload_n X.1 X.2.1 dX0_weightOf_18 rfl (lv_at hl 1 rfl) ?_
        refine lv_iload X.1 X.2.1 dX0_weightOf_19 (lv_at hl 4 rfl) ?_
        obtain ⟨r2, hc3, hf⟩ := bd1_e hf
        refine z_SN (n := 2) (As := [.int n5_0, .int n5_3]) (rest := [.long n5_2]) (host := "LeaversFloor") X hK hN (kX8_has l D K _ n5_0 n5_3 r2 hc3) (bw_G W13_15) (by decide) (bw_in W1_2) (bw_in W13_14) rfl ⟨rfl, rfl⟩ (by decide +kernel) rfl ⟨Nat.le_of_ble_eq_true rfl, Nat.le_of_ble_eq_true rfl⟩ (fun _ _ h => by simp at h) ⟨fun _ _ _ _ h => by simp at h, fun _ _ h => by simp at h⟩ (zj_none hP hD hS hA) hS hl.1 rfl (Nat.le_of_ble_eq_true rfl) dX0_weightOf_21 ⟨Nat.zero_le _, Nat.zero_le _⟩ rfl (fun H locs hP hD hS => ?_)
        refine lv_if_eq (tgt := 32) X.1 X.2.1 dX0_weightOf_24 (by decide) (fun c4 => ?_) (fun c4 => ?_)
        · have hf := ite_t hf c4
          refine lv_bipush (v := 16) X.1 X.2.1 dX0_weightOf_32 (by decide) ?_
          refine lv_iload_n X.1 X.2.1 dX0_weightOf_34 rfl (lv_at hl 2 rfl) ?_
          refine lv_isub X.1 X.2.1 dX0_weightOf_35 ?_
          refine lv_i2l X.1 X.2.1 dX0_weightOf_36 rfl ?_
          refine lv_lmul X.1 X.2.1 dX0_weightOf_37 ?_
          obtain ⟨w5, ew5, hf⟩ := stp_e hf
          refine z_topl ew5 ?_
          refine lv_lstore_n (lv' := [(3, .long w5), (0, .ref (aC 0)), (1, .int n5_0), (2, .int n5_1), (5, .int n5_3)]) X.1 X.2.1 dX0_weightOf_38 rfl hl (by decide) rfl (fun ls hl => ?_)
          obtain ⟨w6, ew6, hf⟩ := stp_e hf
          refine lv_iinc (v := w6) (lv' := [(5, .int w6), (3, .long w5), (0, .ref (aC 0)), (1, .int n5_0), (2, .int n5_1)]) X.1 X.2.1 dX0_weightOf_39 hl (k := 4) rfl (by rw [ew6]; rfl) (by decide) rfl (fun ls hl => ?_)
          refine lv_goto (tgt := 5) X.1 X.2.1 dX0_weightOf_42 (by decide) ?_
          exact ih _ _ _ _ hf _ _ hP hD hS _ (lv_sub hl [2, 3, 4, 1, 0] rfl)
        · have hf := ite_f hf c4
          refine lv_iload_n X.1 X.2.1 dX0_weightOf_27 rfl (lv_at hl 2 rfl) ?_
          refine lv_i2l X.1 X.2.1 dX0_weightOf_28 rfl ?_
          refine lv_goto (tgt := 37) X.1 X.2.1 dX0_weightOf_29 (by decide) ?_
          refine lv_lmul X.1 X.2.1 dX0_weightOf_37 ?_
          obtain ⟨w7, ew7, hf⟩ := stp_e hf
          refine z_topl ew7 ?_
          refine lv_lstore_n (lv' := [(3, .long w7), (0, .ref (aC 0)), (1, .int n5_0), (2, .int n5_1), (5, .int n5_3)]) X.1 X.2.1 dX0_weightOf_38 rfl hl (by decide) rfl (fun ls hl => ?_)
          obtain ⟨w8, ew8, hf⟩ := stp_e hf
          refine lv_iinc (v := w8) (lv' := [(5, .int w8), (3, .long w7), (0, .ref (aC 0)), (1, .int n5_0), (2, .int n5_1)]) X.1 X.2.1 dX0_weightOf_39 hl (k := 4) rfl (by rw [ew8]; rfl) (by decide) rfl (fun ls hl => ?_)
          refine lv_goto (tgt := 5) X.1 X.2.1 dX0_weightOf_42 (by decide) ?_
          exact ih _ _ _ _ hf _ _ hP hD hS _ (lv_sub hl [2, 3, 4, 1, 0] rfl)
  rw [fX0_weightOf] at hf
  refine lv_lconst (v := 1) X.1 X.2.1 dX0_weightOf_0 rfl ?_
  refine lv_lstore_n (lv' := [(3, .long 1), (0, .ref (aC 0)), (1, .int x1), (2, .int x2)]) X.1 X.2.1 dX0_weightOf_1 rfl hl (by decide) rfl (fun ls hl => ?_)
  refine lv_iconst (v := 0) X.1 X.2.1 dX0_weightOf_2 (by decide) ?_
  refine lv_istore (lv' := [(5, .int 0), (3, .long 1), (0, .ref (aC 0)), (1, .int x1), (2, .int x2)]) X.1 X.2.1 dX0_weightOf_3 hl (by decide) rfl (fun ls hl => ?_)
  exact L5_0  _ _ _ _ _ hf _ _ hP hD hS _ (lv_sub hl [2, 3, 4, 1, 0] rfl)
abbrev rmX0_work : Room := { frames := 5, cells := 0, slots := 0, locals := 123 }
set_option maxHeartbeats 4000000 in
set_option maxRecDepth 100000 in
theorem kX0_work (l : Launch) (D : va_G) (K : Nat → ClassId) (aH : Nat → Nat) (aR : Nat → Nat) (aC : Nat → Nat) (h0 : St) (r0 : St) (c0 : St) (cL0 : Lt) (sz : Nat) (x1 : Int32) (x2 : Int32) (x3 : Int32) (r_ : St) (c_ : St) (cL_ : Lt) (hf : fX0_work h0 r0 c0 cL0 x1 x2 x3 = some (r_, c_, cL_)) : Met l yX0_work (bw (Cond.code yX0_work cX0_work 6 none)) rmX0_work (va_Pc [.ref (aC 0), .int x1, .int x2, .int x3] (zB D K sz (wbX2 K aH h0 ++ (wbX4 K (aH 0) aR r0 ++ (wbX0 K (aH 0) (aR 0) aC c0 cL0))))) (zQ (none) D (va_A (wbX2 K aH h0 ++ (wbX4 K (aH 0) aR r0 ++ (wbX0 K (aH 0) (aR 0) aC c0 cL0))) sz) (wbX2 K aH h0 ++ (wbX4 K (aH 0) aR r_ ++ (wbX0 K (aH 0) (aR 0) aC c_ cL_)))) 0 0 (va_A (wbX2 K aH h0 ++ (wbX4 K (aH 0) aR r0 ++ (wbX0 K (aH 0) (aR 0) aC c0 cL0))) sz) := by
  refine z_of (cc := cX0_work) (maxL := 6) (ret := none) (own := RX0) (lv := [(0, .ref (aC 0)), (1, .int x1), (2, .int x2), (3, .int x3)]) (by decide) rfl rfl (Nat.le_of_ble_eq_true rfl) rfl ?_
  intro p e s m below meth c X hr hlk hK hN hsz hP hD hA hS hin ls hl
  generalize va_A (wbX2 K aH h0 ++ (wbX4 K (aH 0) aR r0 ++ (wbX0 K (aH 0) (aR 0) aC c0 cL0))) sz = A at hD hA hS hN ⊢
  have hiX0 : ∀ w ∈ u_ws RX0 TX0 6, w ∈ (bw (Cond.code yX0_work cX0_work 6 none)) := fun w h => bw_in (inlX0 w h)
  have hiX2 : ∀ w ∈ u_ws RX2 TX2 14, w ∈ (bw (Cond.code yX0_work cX0_work 6 none)) := fun w h => bw_in (inlX2 w h)
  have L12_0 : ∀ (n : Nat), ∀ (n12_0 : Int32) (n12_1 : Int32) (n12_2 : Int32) (n12_3 : Int32) (q12_R : St) (q12_C : St) (q12_CL : Lt), fX0_work_12 h0 n n12_0 n12_1 n12_2 n12_3 q12_R q12_C q12_CL = some ((r_, c_, cL_)) → ∀ (H : Heap) (locs : List Loc), va_P D vwCl (wbX2 K aH h0 ++ (wbX4 K (aH 0) aR q12_R ++ (wbX0 K (aH 0) (aR 0) aC q12_C q12_CL))) H → va_D A (wbX2 K aH h0 ++ (wbX4 K (aH 0) aR q12_R ++ (wbX0 K (aH 0) (aR 0) aC q12_C q12_CL))) → va_S A s.heap H locs → ∀ (ls : Array Slot), lv_has ls 6 [(0, .ref (aC 0)), (1, .int n12_0), (2, .int n12_1), (3, .int n12_2), (4, .int n12_3)] → W p l e rmX0_work s m ([.ref (aC 0), .int x1, .int x2, .int x3] : List Value).toArray below meth c H locs 0 0 (MQ below (zQ (none) D A (wbX2 K aH h0 ++ (wbX4 K (aH 0) aR r_ ++ (wbX0 K (aH 0) (aR 0) aC c_ cL_)))) ([.ref (aC 0), .int x1, .int x2, .int x3] : List Value).toArray s 0 0 A) (F0 m 12 ls []) := by
    intro n
    induction n with
    | zero =>
      intro n12_0 n12_1 n12_2 n12_3 q12_R q12_C q12_CL hf
      rw [fX0_work_12] at hf
      cases hf
    | succ n ih =>
      intro n12_0 n12_1 n12_2 n12_3 q12_R q12_C q12_CL hf H locs hP hD hS ls hl
      rw [fX0_work_12] at hf
      refine lv_iload X.1 X.2.1 dX0_work_12 (lv_at hl 4 rfl) ?_
      refine lv_iconst (v := 1) X.1 X.2.1 dX0_work_14 (by decide) ?_
      refine lv_aload_n X.1 X.2.1 dX0_work_15 rfl (lv_at hl 0 rfl) ?_
      refine z_get X hK hP hiX0 19 rfl rfl 0 (by decide) (bw_in W5_5) rfl dX0_work_16 ?_
      refine z_get X hK hP hiX2 0 rfl rfl 3 (by decide) (bw_in W36_10) rfl dX0_work_19 ?_
      refine lv_ishl X.1 X.2.1 dX0_work_22 ?_
      refine lv_icmp_ge (tgt := 85) X.1 X.2.1 dX0_work_23 (by decide) (fun c6 => ?_) (fun c6 => ?_)
      · have hf := ite_t hf c6
        refine lv_aload_n X.1 X.2.1 dX0_work_85 rfl (lv_at hl 0 rfl) ?_
        refine lv_lconst (v := 1) X.1 X.2.1 dX0_work_86 rfl ?_
        refine lv_iconst (v := 4) X.1 X.2.1 dX0_work_87 (by decide) ?_
        refine lv_aload_n X.1 X.2.1 dX0_work_88 rfl (lv_at hl 0 rfl) ?_
        refine z_get X hK hP hiX0 19 rfl rfl 0 (by decide) (bw_in W5_5) rfl dX0_work_89 ?_
        refine z_get X hK hP hiX2 0 rfl rfl 3 (by decide) (bw_in W36_10) rfl dX0_work_92 ?_
        refine lv_imul X.1 X.2.1 dX0_work_95 ?_
        refine lv_lshl X.1 X.2.1 dX0_work_96 rfl ?_
        obtain ⟨cL7, ecL7, hf⟩ := stp_e hf
        refine z_put (ws' := wbX2 K aH h0 ++ (wbX4 K (aH 0) aR q12_R ++ (wbX0 K (aH 0) (aR 0) aC q12_C cL7))) X hK hP hD hS hiX0 tyX0_ok nmX0 19 rfl rfl 5 (by decide) (bw_in W5_4) rfl rfl rfl (Nat.le_of_ble_eq_true rfl) dX0_work_97 (by rw [ecL7]; rfl) (fun H locs hP hD hS => ?_)
        refine lv_aload_n X.1 X.2.1 dX0_work_100 rfl (lv_at hl 0 rfl) ?_
        obtain ⟨cL8, hc9, hf⟩ := bd1_e hf
        refine z_V (n := 0) (As := []) (rest := []) (ci := 0) (q0 := 19) X hK hN (kX0_shorten l D K aH aR aC h0 q12_R q12_C cL7 _ cL8 hc9) (bw_V W36_23 W37_0 W37_1 W2_7 W37_2) rfl ⟨rfl, rfl⟩ (by decide +kernel) rfl ⟨Nat.le_of_ble_eq_true rfl, Nat.le_of_ble_eq_true rfl⟩ hP hD rfl rfl (zj_same hD hS hA) hS hl.1 rfl (Nat.le_of_ble_eq_true rfl) dX0_work_101 ⟨Nat.zero_le _, Nat.zero_le _⟩ rfl (fun H locs hP hD hS => ?_)
        obtain ⟨rfl, rfl, rfl⟩ := z_inj3 hf
        exact z_vret X hr hlk hP hD hS dX0_work_104
      · have hf := ite_f hf c6
        refine lv_iload X.1 X.2.1 dX0_work_26 (lv_at hl 4 rfl) ?_
        refine lv_aload_n X.1 X.2.1 dX0_work_28 rfl (lv_at hl 0 rfl) ?_
        refine z_get X hK hP hiX0 19 rfl rfl 3 (by decide) (bw_in W5_2) rfl dX0_work_29 ?_
        refine z_alen (v := 256) X hK hP 20 1 rfl rfl rfl dX0_work_32 ?_
        refine lv_icmp_ge (tgt := 85) X.1 X.2.1 dX0_work_33 (by decide) (fun c10 => ?_) (fun c10 => ?_)
        · have hf := ite_t hf c10
          refine lv_aload_n X.1 X.2.1 dX0_work_85 rfl (lv_at hl 0 rfl) ?_
          refine lv_lconst (v := 1) X.1 X.2.1 dX0_work_86 rfl ?_
          refine lv_iconst (v := 4) X.1 X.2.1 dX0_work_87 (by decide) ?_
          refine lv_aload_n X.1 X.2.1 dX0_work_88 rfl (lv_at hl 0 rfl) ?_
          refine z_get X hK hP hiX0 19 rfl rfl 0 (by decide) (bw_in W5_5) rfl dX0_work_89 ?_
          refine z_get X hK hP hiX2 0 rfl rfl 3 (by decide) (bw_in W36_10) rfl dX0_work_92 ?_
          refine lv_imul X.1 X.2.1 dX0_work_95 ?_
          refine lv_lshl X.1 X.2.1 dX0_work_96 rfl ?_
          obtain ⟨cL11, ecL11, hf⟩ := stp_e hf
          refine z_put (ws' := wbX2 K aH h0 ++ (wbX4 K (aH 0) aR q12_R ++ (wbX0 K (aH 0) (aR 0) aC q12_C cL11))) X hK hP hD hS hiX0 tyX0_ok nmX0 19 rfl rfl 5 (by decide) (bw_in W5_4) rfl rfl rfl (Nat.le_of_ble_eq_true rfl) dX0_work_97 (by rw [ecL11]; rfl) (fun H locs hP hD hS => ?_)
          refine lv_aload_n X.1 X.2.1 dX0_work_100 rfl (lv_at hl 0 rfl) ?_
          obtain ⟨cL12, hc13, hf⟩ := bd1_e hf
          refine z_V (n := 0) (As := []) (rest := []) (ci := 0) (q0 := 19) X hK hN (kX0_shorten l D K aH aR aC h0 q12_R q12_C cL11 _ cL12 hc13) (bw_V W36_23 W37_0 W37_1 W2_7 W37_2) rfl ⟨rfl, rfl⟩ (by decide +kernel) rfl ⟨Nat.le_of_ble_eq_true rfl, Nat.le_of_ble_eq_true rfl⟩ hP hD rfl rfl (zj_same hD hS hA) hS hl.1 rfl (Nat.le_of_ble_eq_true rfl) dX0_work_101 ⟨Nat.zero_le _, Nat.zero_le _⟩ rfl (fun H locs hP hD hS => ?_)
          obtain ⟨rfl, rfl, rfl⟩ := z_inj3 hf
          exact z_vret X hr hlk hP hD hS dX0_work_104
        · have hf := ite_f hf c10
          refine lv_aload_n X.1 X.2.1 dX0_work_36 rfl (lv_at hl 0 rfl) ?_
          refine z_get X hK hP hiX0 19 rfl rfl 3 (by decide) (bw_in W5_2) rfl dX0_work_37 ?_
          refine lv_iload X.1 X.2.1 dX0_work_40 (lv_at hl 4 rfl) ?_
          obtain ⟨hi15, hf⟩ := chk_e hf
          obtain ⟨v14, ev14, hf⟩ := stp_e hf
          refine z_lald X hK hP 20 rfl hi15 ev14 dX0_work_42 ?_
          refine lv_iload_n X.1 X.2.1 dX0_work_43 rfl (lv_at hl 2 rfl) ?_
          obtain ⟨r16, hc17, hf⟩ := bd1_e hf
          refine z_SN (n := 2) (As := [.long v14, .int n12_1]) (rest := []) (host := "LeaversFloor") X hK hN (kX8_byteOf l D K _ v14 n12_1 r16 hc17) (bw_G W26_5) (by decide) (bw_in W1_2) (bw_in W26_4) rfl ⟨rfl, rfl⟩ (by decide +kernel) rfl ⟨Nat.le_of_ble_eq_true rfl, Nat.le_of_ble_eq_true rfl⟩ (fun _ _ h => by simp at h) ⟨fun _ _ _ _ h => by simp at h, fun _ _ h => by simp at h⟩ (zj_none hP hD hS hA) hS hl.1 rfl (Nat.le_of_ble_eq_true rfl) dX0_work_44 ⟨Nat.zero_le _, Nat.zero_le _⟩ rfl (fun H locs hP hD hS => ?_)
          refine lv_istore (lv' := [(5, .int r16), (0, .ref (aC 0)), (1, .int n12_0), (2, .int n12_1), (3, .int n12_2), (4, .int n12_3)]) X.1 X.2.1 dX0_work_47 hl (by decide) rfl (fun ls hl => ?_)
          refine lv_iload X.1 X.2.1 dX0_work_49 (lv_at hl 0 rfl) ?_
          refine lv_sipush (v := 255) X.1 X.2.1 dX0_work_51 (by decide) ?_
          refine lv_icmp_eq (tgt := 79) X.1 X.2.1 dX0_work_54 (by decide) (fun c18 => ?_) (fun c18 => ?_)
          · have hf := ite_t hf c18
            obtain ⟨w19, ew19, hf⟩ := stp_e hf
            refine lv_iinc (v := w19) (lv' := [(4, .int w19), (5, .int r16), (0, .ref (aC 0)), (1, .int n12_0), (2, .int n12_1), (3, .int n12_2)]) X.1 X.2.1 dX0_work_79 hl (k := 5) rfl (by rw [ew19]; rfl) (by decide) rfl (fun ls hl => ?_)
            refine lv_goto (tgt := 12) X.1 X.2.1 dX0_work_82 (by decide) ?_
            exact ih _ _ _ _ _ _ _ hf _ _ hP hD hS _ (lv_sub hl [2, 3, 4, 5, 0] rfl)
          · have hf := ite_f hf c18
            refine lv_iload X.1 X.2.1 dX0_work_57 (lv_at hl 0 rfl) ?_
            refine lv_iload_n X.1 X.2.1 dX0_work_59 rfl (lv_at hl 4 rfl) ?_
            refine lv_icmp_gt (tgt := 79) X.1 X.2.1 dX0_work_60 (by decide) (fun c20 => ?_) (fun c20 => ?_)
            · have hf := ite_t hf c20
              obtain ⟨w21, ew21, hf⟩ := stp_e hf
              refine lv_iinc (v := w21) (lv' := [(4, .int w21), (5, .int r16), (0, .ref (aC 0)), (1, .int n12_0), (2, .int n12_1), (3, .int n12_2)]) X.1 X.2.1 dX0_work_79 hl (k := 5) rfl (by rw [ew21]; rfl) (by decide) rfl (fun ls hl => ?_)
              refine lv_goto (tgt := 12) X.1 X.2.1 dX0_work_82 (by decide) ?_
              exact ih _ _ _ _ _ _ _ hf _ _ hP hD hS _ (lv_sub hl [2, 3, 4, 5, 0] rfl)
            · have hf := ite_f hf c20
              refine lv_aload_n X.1 X.2.1 dX0_work_63 rfl (lv_at hl 1 rfl) ?_
              refine lv_dup X.1 X.2.1 dX0_work_64 rfl ?_
              refine z_get X hK hP hiX0 19 rfl rfl 4 (by decide) (bw_in W5_3) rfl dX0_work_65 ?_
              refine lv_aload_n X.1 X.2.1 dX0_work_68 rfl (lv_at hl 1 rfl) ?_
              refine lv_iload X.1 X.2.1 dX0_work_69 (lv_at hl 5 rfl) ?_
              refine lv_iload_n X.1 X.2.1 dX0_work_71 rfl (lv_at hl 2 rfl) ?_
              obtain ⟨r22, hc23, hf⟩ := bd1_e hf
              refine z_V (n := 2) (As := [.int n12_3, .int n12_0]) (rest := [.long (q12_CL 0 4), .ref (aC 0)]) (ci := 0) (q0 := 19) X hK hN (kX0_weightOf l D K aH aR aC h0 q12_R q12_C q12_CL _ n12_3 n12_0 r22 hc23) (bw_V W36_19 W36_20 W36_21 W2_7 W36_22) rfl ⟨rfl, rfl⟩ (by decide +kernel) rfl ⟨Nat.le_of_ble_eq_true rfl, Nat.le_of_ble_eq_true rfl⟩ hP hD rfl rfl (zj_same hD hS hA) hS hl.1 rfl (Nat.le_of_ble_eq_true rfl) dX0_work_72 ⟨Nat.zero_le _, Nat.zero_le _⟩ rfl (fun H locs hP hD hS => ?_)
              refine lv_ladd X.1 X.2.1 dX0_work_75 ?_
              obtain ⟨cL24, ecL24, hf⟩ := stp_e hf
              refine z_put (ws' := wbX2 K aH h0 ++ (wbX4 K (aH 0) aR q12_R ++ (wbX0 K (aH 0) (aR 0) aC q12_C cL24))) X hK hP hD hS hiX0 tyX0_ok nmX0 19 rfl rfl 4 (by decide) (bw_in W5_3) rfl rfl rfl (Nat.le_of_ble_eq_true rfl) dX0_work_76 (by rw [ecL24]; rfl) (fun H locs hP hD hS => ?_)
              obtain ⟨w25, ew25, hf⟩ := stp_e hf
              refine lv_iinc (v := w25) (lv' := [(4, .int w25), (5, .int r16), (0, .ref (aC 0)), (1, .int n12_0), (2, .int n12_1), (3, .int n12_2)]) X.1 X.2.1 dX0_work_79 hl (k := 5) rfl (by rw [ew25]; rfl) (by decide) rfl (fun ls hl => ?_)
              refine lv_goto (tgt := 12) X.1 X.2.1 dX0_work_82 (by decide) ?_
              exact ih _ _ _ _ _ _ _ hf _ _ hP hD hS _ (lv_sub hl [2, 3, 4, 5, 0] rfl)
  rw [fX0_work] at hf
  refine lv_aload_n X.1 X.2.1 dX0_work_0 rfl (lv_at hl 0 rfl) ?_
  obtain ⟨r1, c2, cL3, hc4, hf⟩ := bd3_e hf
  refine z_V (n := 0) (As := []) (rest := []) (ci := 0) (q0 := 19) X hK hN (kX0_rideAll l D K aH aR aC h0 r0 c0 cL0 _ r1 c2 cL3 hc4) (bw_V W36_11 W36_12 W36_13 W2_7 W36_14) rfl ⟨rfl, rfl⟩ (by decide +kernel) rfl ⟨Nat.le_of_ble_eq_true rfl, Nat.le_of_ble_eq_true rfl⟩ hP hD rfl rfl (zj_same hD hS hA) hS hl.1 rfl (Nat.le_of_ble_eq_true rfl) dX0_work_1 ⟨Nat.zero_le _, Nat.zero_le _⟩ rfl (fun H locs hP hD hS => ?_)
  refine lv_aload_n X.1 X.2.1 dX0_work_4 rfl (lv_at hl 0 rfl) ?_
  refine lv_lconst (v := 0) X.1 X.2.1 dX0_work_5 rfl ?_
  obtain ⟨cL5, ecL5, hf⟩ := stp_e hf
  refine z_put (ws' := wbX2 K aH h0 ++ (wbX4 K (aH 0) aR r1 ++ (wbX0 K (aH 0) (aR 0) aC c2 cL5))) X hK hP hD hS hiX0 tyX0_ok nmX0 19 rfl rfl 4 (by decide) (bw_in W5_3) rfl rfl rfl (Nat.le_of_ble_eq_true rfl) dX0_work_6 (by rw [ecL5]; rfl) (fun H locs hP hD hS => ?_)
  refine lv_iconst (v := 0) X.1 X.2.1 dX0_work_9 (by decide) ?_
  refine lv_istore (lv' := [(4, .int 0), (0, .ref (aC 0)), (1, .int x1), (2, .int x2), (3, .int x3)]) X.1 X.2.1 dX0_work_10 hl (by decide) rfl (fun ls hl => ?_)
  exact L12_0  _ _ _ _ _ _ _ _ hf _ _ hP hD hS _ (lv_sub hl [1, 2, 3, 4, 0] rfl)
abbrev rmX1_mostAlike : Room := { frames := 1, cells := 0, slots := 0, locals := 21 }
set_option maxHeartbeats 4000000 in
set_option maxRecDepth 100000 in
theorem kX1_mostAlike (l : Launch) (D : va_G) (K : Nat → ClassId) (aH : Nat → Nat) (aR : Nat → Nat) (aS : Nat → Nat) (aG : Nat → Nat) (h0 : St) (r0 : St) (v0 : St) (g0 : St) (sz : Nat) (x1 : Int32) (x2 : Int32) (q_ : Int32) (hf : fX1_mostAlike h0 r0 v0 g0 x1 x2 = some q_) : Met l yX1_mostAlike (bw (Cond.code yX1_mostAlike cX1_mostAlike 7 (some .int))) rmX1_mostAlike (va_Pc [.ref (aG 0), .int x1, .int x2] (zB D K sz (wbX2 K aH h0 ++ (wbX4 K (aH 0) aR r0 ++ (wbX6 K aS v0 ++ (wbX1 K (aH 0) (aR 0) (aS 0) aG g0)))))) (zQ (some (.int q_)) D (va_A (wbX2 K aH h0 ++ (wbX4 K (aH 0) aR r0 ++ (wbX6 K aS v0 ++ (wbX1 K (aH 0) (aR 0) (aS 0) aG g0)))) sz) (wbX2 K aH h0 ++ (wbX4 K (aH 0) aR r0 ++ (wbX6 K aS v0 ++ (wbX1 K (aH 0) (aR 0) (aS 0) aG g0))))) 0 0 (va_A (wbX2 K aH h0 ++ (wbX4 K (aH 0) aR r0 ++ (wbX6 K aS v0 ++ (wbX1 K (aH 0) (aR 0) (aS 0) aG g0)))) sz) := by
  refine z_of (cc := cX1_mostAlike) (maxL := 7) (ret := (some .int)) (own := RX1) (lv := [(0, .ref (aG 0)), (1, .int x1), (2, .int x2)]) (by decide) rfl rfl (Nat.le_of_ble_eq_true rfl) rfl ?_
  intro p e s m below meth c X hr hlk hK hN hsz hP hD hA hS hin ls hl
  generalize va_A (wbX2 K aH h0 ++ (wbX4 K (aH 0) aR r0 ++ (wbX6 K aS v0 ++ (wbX1 K (aH 0) (aR 0) (aS 0) aG g0)))) sz = A at hD hA hS hN ⊢
  have hiX1 : ∀ w ∈ u_ws RX1 TX1 4, w ∈ (bw (Cond.code yX1_mostAlike cX1_mostAlike 7 (some .int))) := fun w h => bw_in (inlX1 w h)
  have L24_1 : ∀ (rec5 : Int32 → Int32 → Int32 → Int32 → Option (Int32)) (hrec5 : ∀ (n5_0 : Int32) (n5_1 : Int32) (n5_2 : Int32) (n5_3 : Int32) , rec5 n5_0 n5_1 n5_2 n5_3 = some q_ → ∀ (H : Heap) (locs : List Loc), va_P D vwCl (wbX2 K aH h0 ++ (wbX4 K (aH 0) aR r0 ++ (wbX6 K aS v0 ++ (wbX1 K (aH 0) (aR 0) (aS 0) aG g0)))) H → va_D A (wbX2 K aH h0 ++ (wbX4 K (aH 0) aR r0 ++ (wbX6 K aS v0 ++ (wbX1 K (aH 0) (aR 0) (aS 0) aG g0)))) → va_S A s.heap H locs → ∀ (ls : Array Slot), lv_has ls 7 [(0, .ref (aG 0)), (1, .int n5_0), (2, .int n5_1), (3, .int n5_2), (4, .int n5_3)] → W p l e rmX1_mostAlike s m ([.ref (aG 0), .int x1, .int x2] : List Value).toArray below meth c H locs 0 0 (MQ below (zQ (some (.int q_)) D A (wbX2 K aH h0 ++ (wbX4 K (aH 0) aR r0 ++ (wbX6 K aS v0 ++ (wbX1 K (aH 0) (aR 0) (aS 0) aG g0))))) ([.ref (aG 0), .int x1, .int x2] : List Value).toArray s 0 0 A) (F0 m 5 ls [])), ∀ (n : Nat), ∀ (n24_0 : Int32) (n24_1 : Int32) (n24_2 : Int32) (n24_3 : Int32) (n24_4 : Int32) (n24_5 : Int32) , fX1_mostAlike_24 h0 r0 v0 g0 rec5 n n24_0 n24_1 n24_2 n24_3 n24_4 n24_5 = some q_ → ∀ (H : Heap) (locs : List Loc), va_P D vwCl (wbX2 K aH h0 ++ (wbX4 K (aH 0) aR r0 ++ (wbX6 K aS v0 ++ (wbX1 K (aH 0) (aR 0) (aS 0) aG g0)))) H → va_D A (wbX2 K aH h0 ++ (wbX4 K (aH 0) aR r0 ++ (wbX6 K aS v0 ++ (wbX1 K (aH 0) (aR 0) (aS 0) aG g0)))) → va_S A s.heap H locs → ∀ (ls : Array Slot), lv_has ls 7 [(0, .ref (aG 0)), (1, .int n24_0), (2, .int n24_1), (3, .int n24_2), (4, .int n24_3), (5, .int n24_4), (6, .int n24_5)] → W p l e rmX1_mostAlike s m ([.ref (aG 0), .int x1, .int x2] : List Value).toArray below meth c H locs 0 0 (MQ below (zQ (some (.int q_)) D A (wbX2 K aH h0 ++ (wbX4 K (aH 0) aR r0 ++ (wbX6 K aS v0 ++ (wbX1 K (aH 0) (aR 0) (aS 0) aG g0))))) ([.ref (aG 0), .int x1, .int x2] : List Value).toArray s 0 0 A) (F0 m 24 ls []) := by
    intro rec5 hrec5 n
    induction n with
    | zero =>
      intro n24_0 n24_1 n24_2 n24_3 n24_4 n24_5  hf
      rw [fX1_mostAlike_24] at hf
      cases hf
    | succ n ih =>
      intro n24_0 n24_1 n24_2 n24_3 n24_4 n24_5  hf H locs hP hD hS ls hl
      rw [fX1_mostAlike_24] at hf
      refine lv_iload X.1 X.2.1 dX1_mostAlike_24 (lv_at hl 6 rfl) ?_
      refine lv_iload_n X.1 X.2.1 dX1_mostAlike_26 rfl (lv_at hl 1 rfl) ?_
      refine lv_icmp_ge (tgt := 73) X.1 X.2.1 dX1_mostAlike_27 (by decide) (fun c3 => ?_) (fun c3 => ?_)
      · have hf := ite_t hf c3
        refine lv_iload_n X.1 X.2.1 dX1_mostAlike_73 rfl (lv_at hl 3 rfl) ?_
        refine lv_iload X.1 X.2.1 dX1_mostAlike_74 (lv_at hl 5 rfl) ?_
        refine va_mmax X.1 X.2.1 (X.2.2.1.trans hl.1.symm) X.2.2.2.1 (X.2.2.2.2 _ (bw_in W35_12)) (X.2.2.2.2 _ (bw_in W35_13)) (X.2.2.2.2 _ (bw_in W12_0)) (X.2.2.2.2 _ (bw_in W35_14)) (Nat.le_of_ble_eq_true rfl) (Nat.le_of_ble_eq_true rfl) (Nat.zero_le _) (Nat.zero_le _) dX1_mostAlike_76 ?_
        obtain ⟨w4, ew4, hf⟩ := stp_e hf
        refine z_top ew4 ?_
        refine lv_istore_n (lv' := [(3, .int w4), (0, .ref (aG 0)), (1, .int n24_0), (2, .int n24_1), (4, .int n24_3), (5, .int n24_4), (6, .int n24_5)]) X.1 X.2.1 dX1_mostAlike_79 rfl hl (by decide) rfl (fun ls hl => ?_)
        obtain ⟨w5, ew5, hf⟩ := stp_e hf
        refine lv_iinc (v := w5) (lv' := [(4, .int w5), (3, .int w4), (0, .ref (aG 0)), (1, .int n24_0), (2, .int n24_1), (5, .int n24_4), (6, .int n24_5)]) X.1 X.2.1 dX1_mostAlike_80 hl (k := 4) rfl (by rw [ew5]; rfl) (by decide) rfl (fun ls hl => ?_)
        refine lv_goto (tgt := 5) X.1 X.2.1 dX1_mostAlike_83 (by decide) ?_
        exact hrec5 _ _ _ _ hf _ _ hP hD hS _ (lv_sub hl [2, 3, 4, 1, 0] rfl)
      · have hf := ite_f hf c3
        refine lv_iload X.1 X.2.1 dX1_mostAlike_30 (lv_at hl 6 rfl) ?_
        refine lv_bipush (v := 8) X.1 X.2.1 dX1_mostAlike_32 (by decide) ?_
        refine lv_icmp_ge (tgt := 73) X.1 X.2.1 dX1_mostAlike_34 (by decide) (fun c6 => ?_) (fun c6 => ?_)
        · have hf := ite_t hf c6
          refine lv_iload_n X.1 X.2.1 dX1_mostAlike_73 rfl (lv_at hl 3 rfl) ?_
          refine lv_iload X.1 X.2.1 dX1_mostAlike_74 (lv_at hl 5 rfl) ?_
          refine va_mmax X.1 X.2.1 (X.2.2.1.trans hl.1.symm) X.2.2.2.1 (X.2.2.2.2 _ (bw_in W35_12)) (X.2.2.2.2 _ (bw_in W35_13)) (X.2.2.2.2 _ (bw_in W12_0)) (X.2.2.2.2 _ (bw_in W35_14)) (Nat.le_of_ble_eq_true rfl) (Nat.le_of_ble_eq_true rfl) (Nat.zero_le _) (Nat.zero_le _) dX1_mostAlike_76 ?_
          obtain ⟨w7, ew7, hf⟩ := stp_e hf
          refine z_top ew7 ?_
          refine lv_istore_n (lv' := [(3, .int w7), (0, .ref (aG 0)), (1, .int n24_0), (2, .int n24_1), (4, .int n24_3), (5, .int n24_4), (6, .int n24_5)]) X.1 X.2.1 dX1_mostAlike_79 rfl hl (by decide) rfl (fun ls hl => ?_)
          obtain ⟨w8, ew8, hf⟩ := stp_e hf
          refine lv_iinc (v := w8) (lv' := [(4, .int w8), (3, .int w7), (0, .ref (aG 0)), (1, .int n24_0), (2, .int n24_1), (5, .int n24_4), (6, .int n24_5)]) X.1 X.2.1 dX1_mostAlike_80 hl (k := 4) rfl (by rw [ew8]; rfl) (by decide) rfl (fun ls hl => ?_)
          refine lv_goto (tgt := 5) X.1 X.2.1 dX1_mostAlike_83 (by decide) ?_
          exact hrec5 _ _ _ _ hf _ _ hP hD hS _ (lv_sub hl [2, 3, 4, 1, 0] rfl)
        · have hf := ite_f hf c6
          refine lv_aload_n X.1 X.2.1 dX1_mostAlike_37 rfl (lv_at hl 0 rfl) ?_
          refine z_get X hK hP hiX1 22 rfl rfl 3 (by decide) (bw_in W5_17) rfl dX1_mostAlike_38 ?_
          refine lv_iload X.1 X.2.1 dX1_mostAlike_41 (lv_at hl 4 rfl) ?_
          refine lv_bipush (v := 100) X.1 X.2.1 dX1_mostAlike_43 (by decide) ?_
          refine lv_imul X.1 X.2.1 dX1_mostAlike_45 ?_
          refine lv_iload_n X.1 X.2.1 dX1_mostAlike_46 rfl (lv_at hl 2 rfl) ?_
          refine lv_iadd X.1 X.2.1 dX1_mostAlike_47 ?_
          obtain ⟨hi10, hf⟩ := chk_e hf
          obtain ⟨v9, ev9, hf⟩ := stp_e hf
          refine z_iald X hK hP 23 rfl hi10 ev9 dX1_mostAlike_48 ?_
          refine lv_aload_n X.1 X.2.1 dX1_mostAlike_49 rfl (lv_at hl 0 rfl) ?_
          refine z_get X hK hP hiX1 22 rfl rfl 3 (by decide) (bw_in W5_17) rfl dX1_mostAlike_50 ?_
          refine lv_iload X.1 X.2.1 dX1_mostAlike_53 (lv_at hl 6 rfl) ?_
          refine lv_bipush (v := 100) X.1 X.2.1 dX1_mostAlike_55 (by decide) ?_
          refine lv_imul X.1 X.2.1 dX1_mostAlike_57 ?_
          refine lv_iload_n X.1 X.2.1 dX1_mostAlike_58 rfl (lv_at hl 2 rfl) ?_
          refine lv_iadd X.1 X.2.1 dX1_mostAlike_59 ?_
          obtain ⟨hi12, hf⟩ := chk_e hf
          obtain ⟨v11, ev11, hf⟩ := stp_e hf
          refine z_iald X hK hP 23 rfl hi12 ev11 dX1_mostAlike_60 ?_
          refine lv_icmp_ne (tgt := 67) X.1 X.2.1 dX1_mostAlike_61 (by decide) (fun c13 => ?_) (fun c13 => ?_)
          · have hf := ite_f hf c13
            obtain ⟨w14, ew14, hf⟩ := stp_e hf
            refine lv_iinc (v := w14) (lv' := [(6, .int w14), (0, .ref (aG 0)), (1, .int n24_0), (2, .int n24_1), (3, .int n24_2), (4, .int n24_3), (5, .int n24_4)]) X.1 X.2.1 dX1_mostAlike_67 hl (k := 6) rfl (by rw [ew14]; rfl) (by decide) rfl (fun ls hl => ?_)
            refine lv_goto (tgt := 24) X.1 X.2.1 dX1_mostAlike_70 (by decide) ?_
            exact ih _ _ _ _ _ _ hf _ _ hP hD hS _ (lv_sub hl [1, 2, 3, 4, 5, 6, 0] rfl)
          · have hf := ite_t hf c13
            obtain ⟨w15, ew15, hf⟩ := stp_e hf
            refine lv_iinc (v := w15) (lv' := [(5, .int w15), (0, .ref (aG 0)), (1, .int n24_0), (2, .int n24_1), (3, .int n24_2), (4, .int n24_3), (6, .int n24_5)]) X.1 X.2.1 dX1_mostAlike_64 hl (k := 5) rfl (by rw [ew15]; rfl) (by decide) rfl (fun ls hl => ?_)
            obtain ⟨w16, ew16, hf⟩ := stp_e hf
            refine lv_iinc (v := w16) (lv' := [(6, .int w16), (5, .int w15), (0, .ref (aG 0)), (1, .int n24_0), (2, .int n24_1), (3, .int n24_2), (4, .int n24_3)]) X.1 X.2.1 dX1_mostAlike_67 hl (k := 6) rfl (by rw [ew16]; rfl) (by decide) rfl (fun ls hl => ?_)
            refine lv_goto (tgt := 24) X.1 X.2.1 dX1_mostAlike_70 (by decide) ?_
            exact ih _ _ _ _ _ _ hf _ _ hP hD hS _ (lv_sub hl [2, 3, 4, 5, 6, 1, 0] rfl)
  have L5_0 : ∀ (n : Nat), ∀ (n5_0 : Int32) (n5_1 : Int32) (n5_2 : Int32) (n5_3 : Int32) , fX1_mostAlike_5 h0 r0 v0 g0 n n5_0 n5_1 n5_2 n5_3 = some q_ → ∀ (H : Heap) (locs : List Loc), va_P D vwCl (wbX2 K aH h0 ++ (wbX4 K (aH 0) aR r0 ++ (wbX6 K aS v0 ++ (wbX1 K (aH 0) (aR 0) (aS 0) aG g0)))) H → va_D A (wbX2 K aH h0 ++ (wbX4 K (aH 0) aR r0 ++ (wbX6 K aS v0 ++ (wbX1 K (aH 0) (aR 0) (aS 0) aG g0)))) → va_S A s.heap H locs → ∀ (ls : Array Slot), lv_has ls 7 [(0, .ref (aG 0)), (1, .int n5_0), (2, .int n5_1), (3, .int n5_2), (4, .int n5_3)] → W p l e rmX1_mostAlike s m ([.ref (aG 0), .int x1, .int x2] : List Value).toArray below meth c H locs 0 0 (MQ below (zQ (some (.int q_)) D A (wbX2 K aH h0 ++ (wbX4 K (aH 0) aR r0 ++ (wbX6 K aS v0 ++ (wbX1 K (aH 0) (aR 0) (aS 0) aG g0))))) ([.ref (aG 0), .int x1, .int x2] : List Value).toArray s 0 0 A) (F0 m 5 ls []) := by
    intro n
    induction n with
    | zero =>
      intro n5_0 n5_1 n5_2 n5_3  hf
      rw [fX1_mostAlike_5] at hf
      cases hf
    | succ n ih =>
      intro n5_0 n5_1 n5_2 n5_3  hf H locs hP hD hS ls hl
      rw [fX1_mostAlike_5] at hf
      refine lv_iload X.1 X.2.1 dX1_mostAlike_5 (lv_at hl 4 rfl) ?_
      refine lv_iload_n X.1 X.2.1 dX1_mostAlike_7 rfl (lv_at hl 1 rfl) ?_
      refine lv_icmp_ge (tgt := 86) X.1 X.2.1 dX1_mostAlike_8 (by decide) (fun c1 => ?_) (fun c1 => ?_)
      · have hf := ite_t hf c1
        refine lv_iload_n X.1 X.2.1 dX1_mostAlike_86 rfl (lv_at hl 3 rfl) ?_
        obtain rfl := z_inj1 hf
        exact z_iret X hr hlk hP hD hS dX1_mostAlike_87
      · have hf := ite_f hf c1
        refine lv_iload X.1 X.2.1 dX1_mostAlike_11 (lv_at hl 4 rfl) ?_
        refine lv_bipush (v := 8) X.1 X.2.1 dX1_mostAlike_13 (by decide) ?_
        refine lv_icmp_ge (tgt := 86) X.1 X.2.1 dX1_mostAlike_15 (by decide) (fun c2 => ?_) (fun c2 => ?_)
        · have hf := ite_t hf c2
          refine lv_iload_n X.1 X.2.1 dX1_mostAlike_86 rfl (lv_at hl 3 rfl) ?_
          obtain rfl := z_inj1 hf
          exact z_iret X hr hlk hP hD hS dX1_mostAlike_87
        · have hf := ite_f hf c2
          refine lv_iconst (v := 0) X.1 X.2.1 dX1_mostAlike_18 (by decide) ?_
          refine lv_istore (lv' := [(5, .int 0), (0, .ref (aG 0)), (1, .int n5_0), (2, .int n5_1), (3, .int n5_2), (4, .int n5_3)]) X.1 X.2.1 dX1_mostAlike_19 hl (by decide) rfl (fun ls hl => ?_)
          refine lv_iconst (v := 0) X.1 X.2.1 dX1_mostAlike_21 (by decide) ?_
          refine lv_istore (lv' := [(6, .int 0), (5, .int 0), (0, .ref (aG 0)), (1, .int n5_0), (2, .int n5_1), (3, .int n5_2), (4, .int n5_3)]) X.1 X.2.1 dX1_mostAlike_22 hl (by decide) rfl (fun ls hl => ?_)
          exact L24_1 _ ih _ _ _ _ _ _ _ hf _ _ hP hD hS _ (lv_sub hl [2, 3, 4, 5, 6, 1, 0] rfl)
  rw [fX1_mostAlike] at hf
  refine lv_iconst (v := 0) X.1 X.2.1 dX1_mostAlike_0 (by decide) ?_
  refine lv_istore_n (lv' := [(3, .int 0), (0, .ref (aG 0)), (1, .int x1), (2, .int x2)]) X.1 X.2.1 dX1_mostAlike_1 rfl hl (by decide) rfl (fun ls hl => ?_)
  refine lv_iconst (v := 0) X.1 X.2.1 dX1_mostAlike_2 (by decide) ?_
  refine lv_istore (lv' := [(4, .int 0), (3, .int 0), (0, .ref (aG 0)), (1, .int x1), (2, .int x2)]) X.1 X.2.1 dX1_mostAlike_3 hl (by decide) rfl (fun ls hl => ?_)
  exact L5_0  _ _ _ _ _ hf _ _ hP hD hS _ (lv_sub hl [2, 3, 4, 1, 0] rfl)
abbrev rmX1_fitsWithout : Room := { frames := 4, cells := 0, slots := 0, locals := 98 }
set_option maxHeartbeats 4000000 in
set_option maxRecDepth 100000 in
theorem kX1_fitsWithout (l : Launch) (D : va_G) (K : Nat → ClassId) (aH : Nat → Nat) (aR : Nat → Nat) (aS : Nat → Nat) (aG : Nat → Nat) (h0 : St) (r0 : St) (v0 : St) (g0 : St) (sz : Nat) (x1 : Int32) (q_ : Int32) (r_ : St) (hf : fX1_fitsWithout h0 r0 v0 g0 x1 = some (q_, r_)) : Met l yX1_fitsWithout (bw (Cond.code yX1_fitsWithout cX1_fitsWithout 2 (some .boolean))) rmX1_fitsWithout (va_Pc [.ref (aG 0), .int x1] (zB D K sz (wbX2 K aH h0 ++ (wbX4 K (aH 0) aR r0 ++ (wbX6 K aS v0 ++ (wbX1 K (aH 0) (aR 0) (aS 0) aG g0)))))) (zQ (some (.int q_)) D (va_A (wbX2 K aH h0 ++ (wbX4 K (aH 0) aR r0 ++ (wbX6 K aS v0 ++ (wbX1 K (aH 0) (aR 0) (aS 0) aG g0)))) sz) (wbX2 K aH h0 ++ (wbX4 K (aH 0) aR r_ ++ (wbX6 K aS v0 ++ (wbX1 K (aH 0) (aR 0) (aS 0) aG g0))))) 0 0 (va_A (wbX2 K aH h0 ++ (wbX4 K (aH 0) aR r0 ++ (wbX6 K aS v0 ++ (wbX1 K (aH 0) (aR 0) (aS 0) aG g0)))) sz) := by
  refine z_of (cc := cX1_fitsWithout) (maxL := 2) (ret := (some .boolean)) (own := RX1) (lv := [(0, .ref (aG 0)), (1, .int x1)]) (by decide) rfl rfl (Nat.le_of_ble_eq_true rfl) rfl ?_
  intro p e s m below meth c X hr hlk hK hN hsz hP hD hA hS hin ls hl
  generalize va_A (wbX2 K aH h0 ++ (wbX4 K (aH 0) aR r0 ++ (wbX6 K aS v0 ++ (wbX1 K (aH 0) (aR 0) (aS 0) aG g0)))) sz = A at hD hA hS hN ⊢
  have hiX1 : ∀ w ∈ u_ws RX1 TX1 4, w ∈ (bw (Cond.code yX1_fitsWithout cX1_fitsWithout 2 (some .boolean))) := fun w h => bw_in (inlX1 w h)
  rw [fX1_fitsWithout] at hf
  refine lv_aload_n X.1 X.2.1 dX1_fitsWithout_0 rfl (lv_at hl 0 rfl) ?_
  refine z_get X hK hP hiX1 22 rfl rfl 1 (by decide) (bw_in W5_19) rfl dX1_fitsWithout_1 ?_
  refine lv_aload_n X.1 X.2.1 dX1_fitsWithout_4 rfl (lv_at hl 0 rfl) ?_
  refine z_get X hK hP hiX1 22 rfl rfl 0 (by decide) (bw_in W5_18) rfl dX1_fitsWithout_5 ?_
  obtain ⟨r1, hc2, hf⟩ := bd1_e hf
  refine z_V (n := 0) (As := []) (rest := [.ref (aR 0)]) (ci := 2) (q0 := 0) X hK hN (kX2_allLeavers l D K aH h0 _ r1 hc2) (bw_V W32_22 W13_4 W13_5 W1_18 W13_6) rfl ⟨rfl, rfl⟩ (by decide +kernel) rfl ⟨Nat.le_of_ble_eq_true rfl, Nat.le_of_ble_eq_true rfl⟩ (hP.sub [0, 1, 2, 3, 4, 5, 6, 7, 8] rfl) (hD.sub [0, 1, 2, 3, 4, 5, 6, 7, 8] (by decide) rfl) rfl rfl (zj_sub (ws' := wbX2 K aH h0 ++ (wbX4 K (aH 0) aR r0 ++ (wbX6 K aS v0 ++ (wbX1 K (aH 0) (aR 0) (aS 0) aG g0)))) hP hD hS hA [0, 1, 2, 3, 4, 5, 6, 7, 8] [9, 10, 11, 12, 13, 14, 15, 16, 17, 18, 19, 20, 21, 22, 23] [15, 16, 17, 18, 19, 20, 21, 22, 23, 0, 1, 2, 3, 4, 5, 6, 7, 8, 9, 10, 11, 12, 13, 14] rfl rfl (by decide) (by decide) (by decide) rfl) hS hl.1 rfl (Nat.le_of_ble_eq_true rfl) dX1_fitsWithout_8 ⟨Nat.zero_le _, Nat.zero_le _⟩ rfl (fun H locs hP hD hS => ?_)
  refine lv_iconst (v := 1) X.1 X.2.1 dX1_fitsWithout_11 (by decide) ?_
  refine lv_iload_n X.1 X.2.1 dX1_fitsWithout_12 rfl (lv_at hl 1 rfl) ?_
  refine lv_ishl X.1 X.2.1 dX1_fitsWithout_13 ?_
  refine lv_iconst (v := -1) X.1 X.2.1 dX1_fitsWithout_14 (by decide) ?_
  refine lv_ixor X.1 X.2.1 dX1_fitsWithout_15 ?_
  refine lv_iand X.1 X.2.1 dX1_fitsWithout_16 ?_
  obtain ⟨r3, hc4, hf⟩ := bd1_e hf
  refine z_V (n := 1) (As := [.int (r1 &&& (((1 : Int32) <<< (x1 &&& 31)) ^^^ ((-1))))]) (rest := []) (ci := 4) (q0 := 9) X hK hN (kX4_begin l D K aH aR h0 r0 _ (r1 &&& (((1 : Int32) <<< (x1 &&& 31)) ^^^ ((-1)))) r3 hc4) (bw_V W32_23 W13_8 W13_9 W1_22 W13_10) rfl ⟨rfl, rfl⟩ (by decide +kernel) rfl ⟨Nat.le_of_ble_eq_true rfl, Nat.le_of_ble_eq_true rfl⟩ (hP.sub [0, 1, 2, 3, 4, 5, 6, 7, 8, 9, 10, 11, 12, 13, 14, 15, 16, 17, 18] rfl) (hD.sub [0, 1, 2, 3, 4, 5, 6, 7, 8, 9, 10, 11, 12, 13, 14, 15, 16, 17, 18] (by decide) rfl) rfl rfl (zj_sub (ws' := wbX2 K aH h0 ++ (wbX4 K (aH 0) aR r3 ++ (wbX6 K aS v0 ++ (wbX1 K (aH 0) (aR 0) (aS 0) aG g0)))) hP hD hS hA [0, 1, 2, 3, 4, 5, 6, 7, 8, 9, 10, 11, 12, 13, 14, 15, 16, 17, 18] [19, 20, 21, 22, 23] [5, 6, 7, 8, 9, 10, 11, 12, 13, 14, 15, 16, 17, 18, 19, 20, 21, 22, 23, 0, 1, 2, 3, 4] rfl rfl (by decide) (by decide) (by decide) rfl) hS hl.1 rfl (Nat.le_of_ble_eq_true rfl) dX1_fitsWithout_17 ⟨Nat.zero_le _, Nat.zero_le _⟩ rfl (fun H locs hP hD hS => ?_)
  refine lv_aload_n X.1 X.2.1 dX1_fitsWithout_20 rfl (lv_at hl 0 rfl) ?_
  refine z_get X hK hP hiX1 22 rfl rfl 1 (by decide) (bw_in W5_19) rfl dX1_fitsWithout_21 ?_
  refine lv_iconst (v := -1) X.1 X.2.1 dX1_fitsWithout_24 (by decide) ?_
  refine lv_iconst (v := -1) X.1 X.2.1 dX1_fitsWithout_25 (by decide) ?_
  obtain ⟨r5, hc6, hf⟩ := bd1_e hf
  refine z_V (n := 2) (As := [.int ((-1)), .int ((-1))]) (rest := []) (ci := 4) (q0 := 9) X hK hN (kX4_goToStops l D K aH aR h0 r3 _ ((-1)) ((-1)) r5 hc6) (bw_V W33_0 W13_23 W14_0 W1_22 W14_1) rfl ⟨rfl, rfl⟩ (by decide +kernel) rfl ⟨Nat.le_of_ble_eq_true rfl, Nat.le_of_ble_eq_true rfl⟩ (hP.sub [0, 1, 2, 3, 4, 5, 6, 7, 8, 9, 10, 11, 12, 13, 14, 15, 16, 17, 18] rfl) (hD.sub [0, 1, 2, 3, 4, 5, 6, 7, 8, 9, 10, 11, 12, 13, 14, 15, 16, 17, 18] (by decide) rfl) rfl rfl (zj_sub (ws' := wbX2 K aH h0 ++ (wbX4 K (aH 0) aR r5 ++ (wbX6 K aS v0 ++ (wbX1 K (aH 0) (aR 0) (aS 0) aG g0)))) hP hD hS hA [0, 1, 2, 3, 4, 5, 6, 7, 8, 9, 10, 11, 12, 13, 14, 15, 16, 17, 18] [19, 20, 21, 22, 23] [5, 6, 7, 8, 9, 10, 11, 12, 13, 14, 15, 16, 17, 18, 19, 20, 21, 22, 23, 0, 1, 2, 3, 4] rfl rfl (by decide) (by decide) (by decide) rfl) hS hl.1 rfl (Nat.le_of_ble_eq_true rfl) dX1_fitsWithout_26 ⟨Nat.zero_le _, Nat.zero_le _⟩ rfl (fun H locs hP hD hS => ?_)
  refine lv_aload_n X.1 X.2.1 dX1_fitsWithout_29 rfl (lv_at hl 0 rfl) ?_
  refine z_get X hK hP hiX1 22 rfl rfl 2 (by decide) (bw_in W5_20) rfl dX1_fitsWithout_30 ?_
  refine lv_aload_n X.1 X.2.1 dX1_fitsWithout_33 rfl (lv_at hl 0 rfl) ?_
  refine z_get X hK hP hiX1 22 rfl rfl 1 (by decide) (bw_in W5_19) rfl dX1_fitsWithout_34 ?_
  obtain ⟨r7, hc8, hf⟩ := bd1_e hf
  refine z_V (n := 1) (As := [.ref (aR 0)]) (rest := []) (ci := 6) (q0 := 0) X hK hN (kX6_comeOut l D K aS aH aR v0 h0 r5 _ r7 hc8) (bw_V W33_1 W33_2 W33_3 W2_11 W33_4) rfl ⟨rfl, rfl⟩ (by decide +kernel) rfl ⟨Nat.le_of_ble_eq_true rfl, Nat.le_of_ble_eq_true rfl⟩ (hP.sub [19, 20, 21, 0, 1, 2, 3, 4, 5, 6, 7, 8, 9, 10, 11, 12, 13, 14, 15, 16, 17, 18] rfl) (hD.sub [19, 20, 21, 0, 1, 2, 3, 4, 5, 6, 7, 8, 9, 10, 11, 12, 13, 14, 15, 16, 17, 18] (by decide) rfl) rfl rfl (zj_sub (ws' := wbX2 K aH h0 ++ (wbX4 K (aH 0) aR r5 ++ (wbX6 K aS v0 ++ (wbX1 K (aH 0) (aR 0) (aS 0) aG g0)))) hP hD hS hA [19, 20, 21, 0, 1, 2, 3, 4, 5, 6, 7, 8, 9, 10, 11, 12, 13, 14, 15, 16, 17, 18] [22, 23] [5, 6, 7, 8, 9, 10, 11, 12, 13, 14, 15, 16, 17, 18, 19, 20, 21, 22, 23, 2, 3, 4, 0, 1] rfl rfl (by decide) (by decide) (by decide) rfl) hS hl.1 rfl (Nat.le_of_ble_eq_true rfl) dX1_fitsWithout_37 ⟨Nat.zero_le _, Nat.zero_le _⟩ rfl (fun H locs hP hD hS => ?_)
  obtain ⟨hb1, hf⟩ := asr_e hf
  obtain ⟨rfl, rfl⟩ := z_inj2 hf
  exact z_zret X hr hlk hb1 hP hD hS dX1_fitsWithout_40
