abbrev rmX9_runsTold : Room := { frames := 7, cells := 0, slots := 0, locals := 163 }
set_option maxHeartbeats 4000000 in
set_option maxRecDepth 100000 in
theorem kX9_runsTold (l : Launch) (D : va_G) (K : Nat → ClassId) (aM : Nat → Nat) (s0 : St) (sz : Nat)  (s_ : St) (hf : fX9_runsTold s0 = some s_) : Met l yX9_runsTold (bw (Cond.code yX9_runsTold cX9_runsTold 1 none)) rmX9_runsTold (va_Pc [.ref (aM 0)] (zB D K sz (wbX9 K aM s0))) (zQ (none) D (va_A (wbX9 K aM s0) sz) (wbX9 K aM s_)) 0 0 (va_A (wbX9 K aM s0) sz) := by
  refine z_of (cc := cX9_runsTold) (maxL := 1) (ret := none) (own := RX9) (lv := [(0, .ref (aM 0))]) (by decide) rfl rfl (Nat.le_of_ble_eq_true rfl) rfl ?_
  intro p e s m below meth c X hr hlk hK hN hsz hP hD hA hS hin ls hl
  generalize va_A (wbX9 K aM s0) sz = A at hD hA hS hN ⊢
  rw [fX9_runsTold] at hf
  refine lv_aload_n X.1 X.2.1 dX9_runsTold_0 rfl (lv_at hl 0 rfl) ?_
  obtain ⟨s1, hc2, hf⟩ := bd1_e hf
  refine z_V (n := 0) (As := []) (rest := []) (ci := 9) (q0 := 0) X hK hN (kX9_asTold l D K aM s0 _ s1 hc2) (bw_V W20_3 W20_4 W20_5 W1_5 W20_6) rfl ⟨rfl, rfl⟩ (by decide +kernel) rfl ⟨Nat.le_of_ble_eq_true rfl, Nat.le_of_ble_eq_true rfl⟩ hP hD rfl rfl (zj_same hD hS hA) hS hl.1 rfl (Nat.le_of_ble_eq_true rfl) dX9_runsTold_1 ⟨Nat.zero_le _, Nat.zero_le _⟩ rfl (fun H locs hP hD hS => ?_)
  refine lv_aload_n X.1 X.2.1 dX9_runsTold_4 rfl (lv_at hl 0 rfl) ?_
  obtain ⟨s3, hc4, hf⟩ := bd1_e hf
  refine z_V (n := 0) (As := []) (rest := []) (ci := 9) (q0 := 0) X hK hN (kX9_runs l D K aM s1 _ s3 hc4) (bw_V W20_9 W20_10 W20_11 W1_5 W20_12) rfl ⟨rfl, rfl⟩ (by decide +kernel) rfl ⟨Nat.le_of_ble_eq_true rfl, Nat.le_of_ble_eq_true rfl⟩ hP hD rfl rfl (zj_same hD hS hA) hS hl.1 rfl (Nat.le_of_ble_eq_true rfl) dX9_runsTold_5 ⟨Nat.zero_le _, Nat.zero_le _⟩ rfl (fun H locs hP hD hS => ?_)
  obtain rfl := z_inj1 hf
  exact z_vret X hr hlk hP hD hS dX9_runsTold_8
abbrev rmX9_arrivedNow : Room := { frames := 0, cells := 0, slots := 0, locals := 0 }
set_option maxHeartbeats 4000000 in
set_option maxRecDepth 100000 in
theorem kX9_arrivedNow (l : Launch) (D : va_G) (K : Nat → ClassId) (aM : Nat → Nat) (s0 : St) (sz : Nat) (x1 : Int32) (q_ : Int32) (hf : fX9_arrivedNow s0 x1 = some q_) : Met l yX9_arrivedNow (bw (Cond.code yX9_arrivedNow cX9_arrivedNow 4 (some .int))) rmX9_arrivedNow (va_Pc [.ref (aM 0), .int x1] (zB D K sz (wbX9 K aM s0))) (zQ (some (.int q_)) D (va_A (wbX9 K aM s0) sz) (wbX9 K aM s0)) 0 0 (va_A (wbX9 K aM s0) sz) := by
  refine z_of (cc := cX9_arrivedNow) (maxL := 4) (ret := (some .int)) (own := RX9) (lv := [(0, .ref (aM 0)), (1, .int x1)]) (by decide) rfl rfl (Nat.le_of_ble_eq_true rfl) rfl ?_
  intro p e s m below meth c X hr hlk hK hN hsz hP hD hA hS hin ls hl
  generalize va_A (wbX9 K aM s0) sz = A at hD hA hS hN ⊢
  have hiX9 : ∀ w ∈ u_ws RX9 TX9 44, w ∈ (bw (Cond.code yX9_arrivedNow cX9_arrivedNow 4 (some .int))) := fun w h => bw_in (inlX9 w h)
  have L4_0 : ∀ (n : Nat), ∀ (n4_0 : Int32) (n4_1 : Int32) (n4_2 : Int32) , fX9_arrivedNow_4 s0 n n4_0 n4_1 n4_2 = some q_ → ∀ (H : Heap) (locs : List Loc), va_P D vwCl (wbX9 K aM s0) H → va_D A (wbX9 K aM s0) → va_S A s.heap H locs → ∀ (ls : Array Slot), lv_has ls 4 [(0, .ref (aM 0)), (1, .int n4_0), (2, .int n4_1), (3, .int n4_2)] → W p l e rmX9_arrivedNow s m ([.ref (aM 0), .int x1] : List Value).toArray below meth c H locs 0 0 (MQ below (zQ (some (.int q_)) D A (wbX9 K aM s0)) ([.ref (aM 0), .int x1] : List Value).toArray s 0 0 A) (F0 m 4 ls []) := by
    intro n
    induction n with
    | zero =>
      intro n4_0 n4_1 n4_2  hf
      rw [fX9_arrivedNow_4] at hf
      cases hf
    | succ n ih =>
      intro n4_0 n4_1 n4_2  hf H locs hP hD hS ls hl
      rw [fX9_arrivedNow_4] at hf
      refine lv_iload_n X.1 X.2.1 dX9_arrivedNow_4 rfl (lv_at hl 3 rfl) ?_
      refine lv_aload_n X.1 X.2.1 dX9_arrivedNow_5 rfl (lv_at hl 0 rfl) ?_
      refine z_get X hK hP hiX9 0 rfl rfl 2 (by decide) (bw_in W10_12) rfl dX9_arrivedNow_6 ?_
      refine lv_icmp_ge (tgt := 48) X.1 X.2.1 dX9_arrivedNow_9 (by decide) (fun c1 => ?_) (fun c1 => ?_)
      · have hf := ite_t hf c1
        refine lv_iload_n X.1 X.2.1 dX9_arrivedNow_48 rfl (lv_at hl 2 rfl) ?_
        obtain rfl := z_inj1 hf
        exact z_iret X hr hlk hP hD hS dX9_arrivedNow_49
      · have hf := ite_f hf c1
        refine lv_iload_n X.1 X.2.1 dX9_arrivedNow_12 rfl (lv_at hl 2 rfl) ?_
        refine lv_aload_n X.1 X.2.1 dX9_arrivedNow_13 rfl (lv_at hl 0 rfl) ?_
        refine z_get X hK hP hiX9 0 rfl rfl 27 (by decide) (bw_in W7_6) rfl dX9_arrivedNow_14 ?_
        refine lv_iload_n X.1 X.2.1 dX9_arrivedNow_17 rfl (lv_at hl 3 rfl) ?_
        obtain ⟨hi3, hf⟩ := chk_e hf
        obtain ⟨v2, ev2, hf⟩ := stp_e hf
        refine z_iald X hK hP 15 rfl hi3 ev2 dX9_arrivedNow_18 ?_
        refine lv_iconst (v := -1) X.1 X.2.1 dX9_arrivedNow_19 (by decide) ?_
        refine lv_icmp_eq (tgt := 39) X.1 X.2.1 dX9_arrivedNow_20 (by decide) (fun c4 => ?_) (fun c4 => ?_)
        · have hf := ite_t hf c4
          refine lv_iconst (v := 0) X.1 X.2.1 dX9_arrivedNow_39 (by decide) ?_
          refine lv_ior X.1 X.2.1 dX9_arrivedNow_40 ?_
          obtain ⟨w5, ew5, hf⟩ := stp_e hf
          refine z_top ew5 ?_
          refine lv_istore_n (lv' := [(2, .int w5), (0, .ref (aM 0)), (1, .int n4_0), (3, .int n4_2)]) X.1 X.2.1 dX9_arrivedNow_41 rfl hl (by decide) rfl (fun ls hl => ?_)
          obtain ⟨w6, ew6, hf⟩ := stp_e hf
          refine lv_iinc (v := w6) (lv' := [(3, .int w6), (2, .int w5), (0, .ref (aM 0)), (1, .int n4_0)]) X.1 X.2.1 dX9_arrivedNow_42 hl (k := 3) rfl (by rw [ew6]; rfl) (by decide) rfl (fun ls hl => ?_)
          refine lv_goto (tgt := 4) X.1 X.2.1 dX9_arrivedNow_45 (by decide) ?_
          exact ih _ _ _ hf _ _ hP hD hS _ (lv_sub hl [2, 3, 1, 0] rfl)
        · have hf := ite_f hf c4
          refine lv_aload_n X.1 X.2.1 dX9_arrivedNow_23 rfl (lv_at hl 0 rfl) ?_
          refine z_get X hK hP hiX9 0 rfl rfl 27 (by decide) (bw_in W7_6) rfl dX9_arrivedNow_24 ?_
          refine lv_iload_n X.1 X.2.1 dX9_arrivedNow_27 rfl (lv_at hl 3 rfl) ?_
          obtain ⟨hi8, hf⟩ := chk_e hf
          obtain ⟨v7, ev7, hf⟩ := stp_e hf
          refine z_iald X hK hP 15 rfl hi8 ev7 dX9_arrivedNow_28 ?_
          refine lv_iload_n X.1 X.2.1 dX9_arrivedNow_29 rfl (lv_at hl 1 rfl) ?_
          refine lv_icmp_gt (tgt := 39) X.1 X.2.1 dX9_arrivedNow_30 (by decide) (fun c9 => ?_) (fun c9 => ?_)
          · have hf := ite_t hf c9
            refine lv_iconst (v := 0) X.1 X.2.1 dX9_arrivedNow_39 (by decide) ?_
            refine lv_ior X.1 X.2.1 dX9_arrivedNow_40 ?_
            obtain ⟨w10, ew10, hf⟩ := stp_e hf
            refine z_top ew10 ?_
            refine lv_istore_n (lv' := [(2, .int w10), (0, .ref (aM 0)), (1, .int n4_0), (3, .int n4_2)]) X.1 X.2.1 dX9_arrivedNow_41 rfl hl (by decide) rfl (fun ls hl => ?_)
            obtain ⟨w11, ew11, hf⟩ := stp_e hf
            refine lv_iinc (v := w11) (lv' := [(3, .int w11), (2, .int w10), (0, .ref (aM 0)), (1, .int n4_0)]) X.1 X.2.1 dX9_arrivedNow_42 hl (k := 3) rfl (by rw [ew11]; rfl) (by decide) rfl (fun ls hl => ?_)
            refine lv_goto (tgt := 4) X.1 X.2.1 dX9_arrivedNow_45 (by decide) ?_
            exact ih _ _ _ hf _ _ hP hD hS _ (lv_sub hl [2, 3, 1, 0] rfl)
          · have hf := ite_f hf c9
            refine lv_iconst (v := 1) X.1 X.2.1 dX9_arrivedNow_33 (by decide) ?_
            refine lv_iload_n X.1 X.2.1 dX9_arrivedNow_34 rfl (lv_at hl 3 rfl) ?_
            refine lv_ishl X.1 X.2.1 dX9_arrivedNow_35 ?_
            refine lv_goto (tgt := 40) X.1 X.2.1 dX9_arrivedNow_36 (by decide) ?_
            refine lv_ior X.1 X.2.1 dX9_arrivedNow_40 ?_
            obtain ⟨w12, ew12, hf⟩ := stp_e hf
            refine z_top ew12 ?_
            refine lv_istore_n (lv' := [(2, .int w12), (0, .ref (aM 0)), (1, .int n4_0), (3, .int n4_2)]) X.1 X.2.1 dX9_arrivedNow_41 rfl hl (by decide) rfl (fun ls hl => ?_)
            obtain ⟨w13, ew13, hf⟩ := stp_e hf
            refine lv_iinc (v := w13) (lv' := [(3, .int w13), (2, .int w12), (0, .ref (aM 0)), (1, .int n4_0)]) X.1 X.2.1 dX9_arrivedNow_42 hl (k := 3) rfl (by rw [ew13]; rfl) (by decide) rfl (fun ls hl => ?_)
            refine lv_goto (tgt := 4) X.1 X.2.1 dX9_arrivedNow_45 (by decide) ?_
            exact ih _ _ _ hf _ _ hP hD hS _ (lv_sub hl [2, 3, 1, 0] rfl)
  rw [fX9_arrivedNow] at hf
  refine lv_iconst (v := 0) X.1 X.2.1 dX9_arrivedNow_0 (by decide) ?_
  refine lv_istore_n (lv' := [(2, .int 0), (0, .ref (aM 0)), (1, .int x1)]) X.1 X.2.1 dX9_arrivedNow_1 rfl hl (by decide) rfl (fun ls hl => ?_)
  refine lv_iconst (v := 0) X.1 X.2.1 dX9_arrivedNow_2 (by decide) ?_
  refine lv_istore_n (lv' := [(3, .int 0), (2, .int 0), (0, .ref (aM 0)), (1, .int x1)]) X.1 X.2.1 dX9_arrivedNow_3 rfl hl (by decide) rfl (fun ls hl => ?_)
  exact L4_0  _ _ _ _ hf _ _ hP hD hS _ (lv_sub hl [2, 3, 1, 0] rfl)
abbrev rmX9_arrivedOf : Room := { frames := 8, cells := 0, slots := 0, locals := 183 }
set_option maxHeartbeats 4000000 in
set_option maxRecDepth 100000 in
theorem kX9_arrivedOf (l : Launch) (D : va_G) (K : Nat → ClassId) (aM : Nat → Nat) (s0 : St) (sz : Nat) (x1 : Int32) (q_ : Int32) (s_ : St) (hf : fX9_arrivedOf s0 x1 = some (q_, s_)) : Met l yX9_arrivedOf (bw (Cond.code yX9_arrivedOf cX9_arrivedOf 2 (some .int))) rmX9_arrivedOf (va_Pc [.ref (aM 0), .int x1] (zB D K sz (wbX9 K aM s0))) (zQ (some (.int q_)) D (va_A (wbX9 K aM s0) sz) (wbX9 K aM s_)) 0 0 (va_A (wbX9 K aM s0) sz) := by
  refine z_of (cc := cX9_arrivedOf) (maxL := 2) (ret := (some .int)) (own := RX9) (lv := [(0, .ref (aM 0)), (1, .int x1)]) (by decide) rfl rfl (Nat.le_of_ble_eq_true rfl) rfl ?_
  intro p e s m below meth c X hr hlk hK hN hsz hP hD hA hS hin ls hl
  generalize va_A (wbX9 K aM s0) sz = A at hD hA hS hN ⊢
  rw [fX9_arrivedOf] at hf
  refine lv_aload_n X.1 X.2.1 dX9_arrivedOf_0 rfl (lv_at hl 0 rfl) ?_
  obtain ⟨s1, hc2, hf⟩ := bd1_e hf
  refine z_V (n := 0) (As := []) (rest := []) (ci := 9) (q0 := 0) X hK hN (kX9_runsTold l D K aM s0 _ s1 hc2) (bw_V W19_23 W20_0 W20_1 W1_5 W20_2) rfl ⟨rfl, rfl⟩ (by decide +kernel) rfl ⟨Nat.le_of_ble_eq_true rfl, Nat.le_of_ble_eq_true rfl⟩ hP hD rfl rfl (zj_same hD hS hA) hS hl.1 rfl (Nat.le_of_ble_eq_true rfl) dX9_arrivedOf_1 ⟨Nat.zero_le _, Nat.zero_le _⟩ rfl (fun H locs hP hD hS => ?_)
  refine lv_aload_n X.1 X.2.1 dX9_arrivedOf_4 rfl (lv_at hl 0 rfl) ?_
  refine lv_iload_n X.1 X.2.1 dX9_arrivedOf_5 rfl (lv_at hl 1 rfl) ?_
  obtain ⟨r3, hc4, hf⟩ := bd1_e hf
  refine z_V (n := 1) (As := [.int x1]) (rest := []) (ci := 9) (q0 := 0) X hK hN (kX9_arrivedNow l D K aM s1 _ x1 r3 hc4) (bw_V W25_9 W25_10 W25_11 W1_5 W25_12) rfl ⟨rfl, rfl⟩ (by decide +kernel) rfl ⟨Nat.le_of_ble_eq_true rfl, Nat.le_of_ble_eq_true rfl⟩ hP hD rfl rfl (zj_same hD hS hA) hS hl.1 rfl (Nat.le_of_ble_eq_true rfl) dX9_arrivedOf_6 ⟨Nat.zero_le _, Nat.zero_le _⟩ rfl (fun H locs hP hD hS => ?_)
  obtain ⟨rfl, rfl⟩ := z_inj2 hf
  exact z_iret X hr hlk hP hD hS dX9_arrivedOf_9
abbrev rmX9_arrived : Room := { frames := 9, cells := 0, slots := 0, locals := 204 }
set_option maxHeartbeats 4000000 in
set_option maxRecDepth 100000 in
theorem kX9_arrived (l : Launch) (D : va_G) (K : Nat → ClassId) (aM : Nat → Nat) (s0 : St) (sz : Nat) (x1 : Int32) (q_ : Int32) (s_ : St) (hf : fX9_arrived s0 x1 = some (q_, s_)) : Met l yX9_arrived (bw (Cond.code yX9_arrived cX9_arrived 2 (some .int))) rmX9_arrived (va_Pc [.ref (aM 0), .int x1] (zB D K sz (wbX9 K aM s0))) (zQ (some (.int q_)) D (va_A (wbX9 K aM s0) sz) (wbX9 K aM s_)) 0 0 (va_A (wbX9 K aM s0) sz) := by
  refine z_of (cc := cX9_arrived) (maxL := 2) (ret := (some .int)) (own := RX9) (lv := [(0, .ref (aM 0)), (1, .int x1)]) (by decide) rfl rfl (Nat.le_of_ble_eq_true rfl) rfl ?_
  intro p e s m below meth c X hr hlk hK hN hsz hP hD hA hS hin ls hl
  generalize va_A (wbX9 K aM s0) sz = A at hD hA hS hN ⊢
  rw [fX9_arrived] at hf
  refine lv_iload_n X.1 X.2.1 dX9_arrived_0 rfl (lv_at hl 1 rfl) ?_
  obtain ⟨r1, hc2, hf⟩ := bd1_e hf
  refine z_S (n := 1) (As := [.int x1]) (rest := []) X hK hN (kX9_isSteps l D K _ x1 r1 hc2) (bw_S W19_15 W19_16 W1_5 W19_17) rfl ⟨rfl, rfl⟩ (by decide +kernel) rfl ⟨Nat.le_of_ble_eq_true rfl, Nat.le_of_ble_eq_true rfl⟩ (fun _ _ h => by simp at h) ⟨fun _ _ _ _ h => by simp at h, fun _ _ h => by simp at h⟩ (zj_none hP hD hS hA) hS hl.1 rfl (Nat.le_of_ble_eq_true rfl) dX9_arrived_1 ⟨Nat.zero_le _, Nat.zero_le _⟩ rfl (fun H locs hP hD hS => ?_)
  refine lv_if_eq (tgt := 15) X.1 X.2.1 dX9_arrived_4 (by decide) (fun c3 => ?_) (fun c3 => ?_)
  · have hf := ite_t hf c3
    refine lv_bipush (v := -2) X.1 X.2.1 dX9_arrived_15 (by decide) ?_
    obtain ⟨rfl, rfl⟩ := z_inj2 hf
    exact z_iret X hr hlk hP hD hS dX9_arrived_17
  · have hf := ite_f hf c3
    refine lv_aload_n X.1 X.2.1 dX9_arrived_7 rfl (lv_at hl 0 rfl) ?_
    refine lv_iload_n X.1 X.2.1 dX9_arrived_8 rfl (lv_at hl 1 rfl) ?_
    obtain ⟨r4, s5, hc6, hf⟩ := bd2_e hf
    refine z_V (n := 1) (As := [.int x1]) (rest := []) (ci := 9) (q0 := 0) X hK hN (kX9_arrivedOf l D K aM s0 _ x1 r4 s5 hc6) (bw_V W25_5 W25_6 W25_7 W1_5 W25_8) rfl ⟨rfl, rfl⟩ (by decide +kernel) rfl ⟨Nat.le_of_ble_eq_true rfl, Nat.le_of_ble_eq_true rfl⟩ hP hD rfl rfl (zj_same hD hS hA) hS hl.1 rfl (Nat.le_of_ble_eq_true rfl) dX9_arrived_9 ⟨Nat.zero_le _, Nat.zero_le _⟩ rfl (fun H locs hP hD hS => ?_)
    refine lv_goto (tgt := 17) X.1 X.2.1 dX9_arrived_12 (by decide) ?_
    obtain ⟨rfl, rfl⟩ := z_inj2 hf
    exact z_iret X hr hlk hP hD hS dX9_arrived_17
abbrev rmX9_arrivesBy : Room := { frames := 7, cells := 0, slots := 0, locals := 163 }
set_option maxHeartbeats 4000000 in
set_option maxRecDepth 100000 in
theorem kX9_arrivesBy (l : Launch) (D : va_G) (K : Nat → ClassId) (aM : Nat → Nat) (s0 : St) (sz : Nat) (x1 : Int32) (x2 : Int32) (x3 : Int32) (q_ : Int32) (s_ : St) (hf : fX9_arrivesBy s0 x1 x2 x3 = some (q_, s_)) : Met l yX9_arrivesBy (bw (Cond.code yX9_arrivesBy cX9_arrivesBy 4 (some .boolean))) rmX9_arrivesBy (va_Pc [.ref (aM 0), .int x1, .int x2, .int x3] (zB D K sz (wbX9 K aM s0))) (zQ (some (.int q_)) D (va_A (wbX9 K aM s0) sz) (wbX9 K aM s_)) 0 0 (va_A (wbX9 K aM s0) sz) := by
  refine z_of (cc := cX9_arrivesBy) (maxL := 4) (ret := (some .boolean)) (own := RX9) (lv := [(0, .ref (aM 0)), (1, .int x1), (2, .int x2), (3, .int x3)]) (by decide) rfl rfl (Nat.le_of_ble_eq_true rfl) rfl ?_
  intro p e s m below meth c X hr hlk hK hN hsz hP hD hA hS hin ls hl
  generalize va_A (wbX9 K aM s0) sz = A at hD hA hS hN ⊢
  have hiX9 : ∀ w ∈ u_ws RX9 TX9 44, w ∈ (bw (Cond.code yX9_arrivesBy cX9_arrivesBy 4 (some .boolean))) := fun w h => bw_in (inlX9 w h)
  rw [fX9_arrivesBy] at hf
  refine lv_aload_n X.1 X.2.1 dX9_arrivesBy_0 rfl (lv_at hl 0 rfl) ?_
  obtain ⟨s1, hc2, hf⟩ := bd1_e hf
  refine z_V (n := 0) (As := []) (rest := []) (ci := 9) (q0 := 0) X hK hN (kX9_asTold l D K aM s0 _ s1 hc2) (bw_V W20_3 W20_4 W20_5 W1_5 W20_6) rfl ⟨rfl, rfl⟩ (by decide +kernel) rfl ⟨Nat.le_of_ble_eq_true rfl, Nat.le_of_ble_eq_true rfl⟩ hP hD rfl rfl (zj_same hD hS hA) hS hl.1 rfl (Nat.le_of_ble_eq_true rfl) dX9_arrivesBy_1 ⟨Nat.zero_le _, Nat.zero_le _⟩ rfl (fun H locs hP hD hS => ?_)
  refine lv_aload_n X.1 X.2.1 dX9_arrivesBy_4 rfl (lv_at hl 0 rfl) ?_
  refine z_get X hK hP hiX9 0 rfl rfl 14 (by decide) (bw_in W7_0) rfl dX9_arrivesBy_5 ?_
  refine lv_aload_n X.1 X.2.1 dX9_arrivesBy_8 rfl (lv_at hl 0 rfl) ?_
  refine z_get X hK hP hiX9 0 rfl rfl 13 (by decide) (bw_in W20_7) rfl dX9_arrivesBy_9 ?_
  refine lv_iload_n X.1 X.2.1 dX9_arrivesBy_12 rfl (lv_at hl 2 rfl) ?_
  obtain ⟨hi3, hf⟩ := chk_e hf
  obtain ⟨s4, es4, hf⟩ := stp_e hf
  refine z_iast (ws' := wbX9 K aM s4) X hK hP hD hS 9 rfl hi3 dX9_arrivesBy_13 (by rw [es4]; rfl) (fun H locs hP hD hS => ?_)
  refine lv_aload_n X.1 X.2.1 dX9_arrivesBy_14 rfl (lv_at hl 0 rfl) ?_
  refine z_get X hK hP hiX9 0 rfl rfl 14 (by decide) (bw_in W7_0) rfl dX9_arrivesBy_15 ?_
  refine lv_aload_n X.1 X.2.1 dX9_arrivesBy_18 rfl (lv_at hl 0 rfl) ?_
  refine z_get X hK hP hiX9 0 rfl rfl 13 (by decide) (bw_in W20_7) rfl dX9_arrivesBy_19 ?_
  refine lv_iconst (v := 1) X.1 X.2.1 dX9_arrivesBy_22 (by decide) ?_
  refine lv_iadd X.1 X.2.1 dX9_arrivesBy_23 ?_
  refine lv_iload_n X.1 X.2.1 dX9_arrivesBy_24 rfl (lv_at hl 3 rfl) ?_
  obtain ⟨hi5, hf⟩ := chk_e hf
  obtain ⟨s6, es6, hf⟩ := stp_e hf
  refine z_iast (ws' := wbX9 K aM s6) X hK hP hD hS 9 rfl hi5 dX9_arrivesBy_25 (by rw [es6]; rfl) (fun H locs hP hD hS => ?_)
  refine lv_aload_n X.1 X.2.1 dX9_arrivesBy_26 rfl (lv_at hl 0 rfl) ?_
  refine lv_dup X.1 X.2.1 dX9_arrivesBy_27 rfl ?_
  refine z_get X hK hP hiX9 0 rfl rfl 13 (by decide) (bw_in W20_7) rfl dX9_arrivesBy_28 ?_
  refine lv_iload_n X.1 X.2.1 dX9_arrivesBy_31 rfl (lv_at hl 1 rfl) ?_
  refine lv_iadd X.1 X.2.1 dX9_arrivesBy_32 ?_
  obtain ⟨s7, es7, hf⟩ := stp_e hf
  refine z_put (ws' := wbX9 K aM s7) X hK hP hD hS hiX9 tyX9_ok nmX9 0 rfl rfl 13 (by decide) (bw_in W20_7) rfl rfl rfl (Nat.le_of_ble_eq_true rfl) dX9_arrivesBy_33 (by rw [es7]; rfl) (fun H locs hP hD hS => ?_)
  refine lv_aload_n X.1 X.2.1 dX9_arrivesBy_36 rfl (lv_at hl 0 rfl) ?_
  refine z_get X hK hP hiX9 0 rfl rfl 33 (by decide) (bw_in W7_10) rfl dX9_arrivesBy_37 ?_
  refine lv_iconst (v := 0) X.1 X.2.1 dX9_arrivesBy_40 (by decide) ?_
  refine lv_iload_n X.1 X.2.1 dX9_arrivesBy_41 rfl (lv_at hl 2 rfl) ?_
  obtain ⟨hi8, hf⟩ := chk_e hf
  obtain ⟨s9, es9, hf⟩ := stp_e hf
  refine z_iast (ws' := wbX9 K aM s9) X hK hP hD hS 19 rfl hi8 dX9_arrivesBy_42 (by rw [es9]; rfl) (fun H locs hP hD hS => ?_)
  refine lv_aload_n X.1 X.2.1 dX9_arrivesBy_43 rfl (lv_at hl 0 rfl) ?_
  refine z_get X hK hP hiX9 0 rfl rfl 33 (by decide) (bw_in W7_10) rfl dX9_arrivesBy_44 ?_
  refine lv_iconst (v := 1) X.1 X.2.1 dX9_arrivesBy_47 (by decide) ?_
  refine lv_iload_n X.1 X.2.1 dX9_arrivesBy_48 rfl (lv_at hl 3 rfl) ?_
  obtain ⟨hi10, hf⟩ := chk_e hf
  obtain ⟨s11, es11, hf⟩ := stp_e hf
  refine z_iast (ws' := wbX9 K aM s11) X hK hP hD hS 19 rfl hi10 dX9_arrivesBy_49 (by rw [es11]; rfl) (fun H locs hP hD hS => ?_)
  refine lv_aload_n X.1 X.2.1 dX9_arrivesBy_50 rfl (lv_at hl 0 rfl) ?_
  obtain ⟨s12, hc13, hf⟩ := bd1_e hf
  refine z_V (n := 0) (As := []) (rest := []) (ci := 9) (q0 := 0) X hK hN (kX9_runs l D K aM s11 _ s12 hc13) (bw_V W20_9 W20_10 W20_11 W1_5 W20_12) rfl ⟨rfl, rfl⟩ (by decide +kernel) rfl ⟨Nat.le_of_ble_eq_true rfl, Nat.le_of_ble_eq_true rfl⟩ hP hD rfl rfl (zj_same hD hS hA) hS hl.1 rfl (Nat.le_of_ble_eq_true rfl) dX9_arrivesBy_51 ⟨Nat.zero_le _, Nat.zero_le _⟩ rfl (fun H locs hP hD hS => ?_)
  refine lv_aload_n X.1 X.2.1 dX9_arrivesBy_54 rfl (lv_at hl 0 rfl) ?_
  refine lv_sipush (v := 255) X.1 X.2.1 dX9_arrivesBy_55 (by decide) ?_
  obtain ⟨r14, hc15, hf⟩ := bd1_e hf
  refine z_V (n := 1) (As := [.int 255]) (rest := []) (ci := 9) (q0 := 0) X hK hN (kX9_arrivedNow l D K aM s12 _ 255 r14 hc15) (bw_V W25_9 W25_10 W25_11 W1_5 W25_12) rfl ⟨rfl, rfl⟩ (by decide +kernel) rfl ⟨Nat.le_of_ble_eq_true rfl, Nat.le_of_ble_eq_true rfl⟩ hP hD rfl rfl (zj_same hD hS hA) hS hl.1 rfl (Nat.le_of_ble_eq_true rfl) dX9_arrivesBy_58 ⟨Nat.zero_le _, Nat.zero_le _⟩ rfl (fun H locs hP hD hS => ?_)
  refine lv_iconst (v := 1) X.1 X.2.1 dX9_arrivesBy_61 (by decide) ?_
  refine lv_aload_n X.1 X.2.1 dX9_arrivesBy_62 rfl (lv_at hl 0 rfl) ?_
  refine z_get X hK hP hiX9 0 rfl rfl 2 (by decide) (bw_in W10_12) rfl dX9_arrivesBy_63 ?_
  refine lv_ishl X.1 X.2.1 dX9_arrivesBy_66 ?_
  refine lv_iconst (v := 1) X.1 X.2.1 dX9_arrivesBy_67 (by decide) ?_
  refine lv_isub X.1 X.2.1 dX9_arrivesBy_68 ?_
  refine lv_icmp_ne (tgt := 76) X.1 X.2.1 dX9_arrivesBy_69 (by decide) (fun c16 => ?_) (fun c16 => ?_)
  · have hf := ite_f hf c16
    refine lv_iconst (v := 0) X.1 X.2.1 dX9_arrivesBy_76 (by decide) ?_
    obtain ⟨rfl, rfl⟩ := z_inj2 hf
    exact z_zret X hr hlk (by decide) hP hD hS dX9_arrivesBy_77
  · have hf := ite_t hf c16
    refine lv_iconst (v := 1) X.1 X.2.1 dX9_arrivesBy_72 (by decide) ?_
    refine lv_goto (tgt := 77) X.1 X.2.1 dX9_arrivesBy_73 (by decide) ?_
    obtain ⟨rfl, rfl⟩ := z_inj2 hf
    exact z_zret X hr hlk (by decide) hP hD hS dX9_arrivesBy_77
abbrev rmX9_isSheet : Room := { frames := 1, cells := 0, slots := 0, locals := 22 }
set_option maxHeartbeats 4000000 in
set_option maxRecDepth 100000 in
theorem kX9_isSheet (l : Launch) (D : va_G) (K : Nat → ClassId)   (sz : Nat) (x1 : Int32) (q_ : Int32) (hf : fX9_isSheet x1 = some q_) : Met l yX9_isSheet (bw (Cond.code yX9_isSheet cX9_isSheet 1 (some .boolean))) rmX9_isSheet (va_Pc [.int x1] (zB D K sz (([] : va_W)))) (zQ (some (.int q_)) D (va_A (([] : va_W)) sz) (([] : va_W))) 0 0 (va_A (([] : va_W)) sz) := by
  refine z_of (cc := cX9_isSheet) (maxL := 1) (ret := (some .boolean)) (own := RX9) (lv := [(0, .int x1)]) (by decide) rfl rfl (Nat.le_of_ble_eq_true rfl) rfl ?_
  intro p e s m below meth c X hr hlk hK hN hsz hP hD hA hS hin ls hl
  generalize va_A (([] : va_W)) sz = A at hD hA hS hN ⊢
  rw [fX9_isSheet] at hf
  refine lv_iload_n X.1 X.2.1 dX9_isSheet_0 rfl (lv_at hl 0 rfl) ?_
  refine lv_iconst (v := 0) X.1 X.2.1 dX9_isSheet_1 (by decide) ?_
  refine lv_iconst (v := 3) X.1 X.2.1 dX9_isSheet_2 (by decide) ?_
  obtain ⟨r1, hc2, hf⟩ := bd1_e hf
  refine z_S (n := 3) (As := [.int x1, .int 0, .int 3]) (rest := []) X hK hN (kX9_in l D K _ x1 0 3 r1 hc2) (bw_S W8_17 W8_18 W1_5 W8_19) rfl ⟨rfl, rfl⟩ (by decide +kernel) rfl ⟨Nat.le_of_ble_eq_true rfl, Nat.le_of_ble_eq_true rfl⟩ (fun _ _ h => by simp at h) ⟨fun _ _ _ _ h => by simp at h, fun _ _ h => by simp at h⟩ (zj_none hP hD hS hA) hS hl.1 rfl (Nat.le_of_ble_eq_true rfl) dX9_isSheet_3 ⟨Nat.zero_le _, Nat.zero_le _⟩ rfl (fun H locs hP hD hS => ?_)
  obtain ⟨hb1, hf⟩ := asr_e hf
  obtain rfl := z_inj1 hf
  exact z_zret X hr hlk hb1 hP hD hS dX9_isSheet_6
abbrev rmX9_meets : Room := { frames := 0, cells := 0, slots := 0, locals := 0 }
set_option maxHeartbeats 4000000 in
set_option maxRecDepth 100000 in
theorem kX9_meets (l : Launch) (D : va_G) (K : Nat → ClassId) (aM : Nat → Nat) (s0 : St) (sz : Nat) (x1 : Int32) (q_ : Int32) (s_ : St) (hf : fX9_meets s0 x1 = some (q_, s_)) : Met l yX9_meets (bw (Cond.code yX9_meets cX9_meets 2 (some .int))) rmX9_meets (va_Pc [.ref (aM 0), .int x1] (zB D K sz (wbX9 K aM s0))) (zQ (some (.int q_)) D (va_A (wbX9 K aM s0) sz) (wbX9 K aM s_)) 0 0 (va_A (wbX9 K aM s0) sz) := by
  refine z_of (cc := cX9_meets) (maxL := 2) (ret := (some .int)) (own := RX9) (lv := [(0, .ref (aM 0)), (1, .int x1)]) (by decide) rfl rfl (Nat.le_of_ble_eq_true rfl) rfl ?_
  intro p e s m below meth c X hr hlk hK hN hsz hP hD hA hS hin ls hl
  generalize va_A (wbX9 K aM s0) sz = A at hD hA hS hN ⊢
  have hiX9 : ∀ w ∈ u_ws RX9 TX9 44, w ∈ (bw (Cond.code yX9_meets cX9_meets 2 (some .int))) := fun w h => bw_in (inlX9 w h)
  rw [fX9_meets] at hf
  refine lv_aload_n X.1 X.2.1 dX9_meets_0 rfl (lv_at hl 0 rfl) ?_
  refine lv_iload_n X.1 X.2.1 dX9_meets_1 rfl (lv_at hl 1 rfl) ?_
  obtain ⟨s1, es1, hf⟩ := stp_e hf
  refine z_put (ws' := wbX9 K aM s1) X hK hP hD hS hiX9 tyX9_ok nmX9 0 rfl rfl 43 (by decide) (bw_in W32_7) rfl rfl rfl (Nat.le_of_ble_eq_true rfl) dX9_meets_2 (by rw [es1]; rfl) (fun H locs hP hD hS => ?_)
  refine lv_bipush (v := -10) X.1 X.2.1 dX9_meets_5 (by decide) ?_
  refine lv_iload_n X.1 X.2.1 dX9_meets_7 rfl (lv_at hl 1 rfl) ?_
  refine lv_isub X.1 X.2.1 dX9_meets_8 ?_
  obtain ⟨rfl, rfl⟩ := z_inj2 hf
  exact z_iret X hr hlk hP hD hS dX9_meets_9
abbrev rmX9_copy : Room := { frames := 2, cells := 0, slots := 0, locals := 42 }
set_option maxHeartbeats 4000000 in
set_option maxRecDepth 100000 in
theorem kX9_copy (l : Launch) (D : va_G) (K : Nat → ClassId) (aM : Nat → Nat) (s0 : St) (sz : Nat) (x1 : Int32) (x2 : Int32) (x3 : Int32) (x4 : Int32) (x5 : Int32) (q_ : Int32) (s_ : St) (hf : fX9_copy s0 x1 x2 x3 x4 x5 = some (q_, s_)) : Met l yX9_copy (bw (Cond.code yX9_copy cX9_copy 7 (some .int))) rmX9_copy (va_Pc [.ref (aM 0), .int x1, .int x2, .int x3, .int x4, .int x5] (zB D K sz (wbX9 K aM s0))) (zQ (some (.int q_)) D (va_A (wbX9 K aM s0) sz) (wbX9 K aM s_)) 0 0 (va_A (wbX9 K aM s0) sz) := by
  refine z_of (cc := cX9_copy) (maxL := 7) (ret := (some .int)) (own := RX9) (lv := [(0, .ref (aM 0)), (1, .int x1), (2, .int x2), (3, .int x3), (4, .int x4), (5, .int x5)]) (by decide) rfl rfl (Nat.le_of_ble_eq_true rfl) rfl ?_
  intro p e s m below meth c X hr hlk hK hN hsz hP hD hA hS hin ls hl
  generalize va_A (wbX9 K aM s0) sz = A at hD hA hS hN ⊢
  have hiX9 : ∀ w ∈ u_ws RX9 TX9 44, w ∈ (bw (Cond.code yX9_copy cX9_copy 7 (some .int))) := fun w h => bw_in (inlX9 w h)
  have L157_1 : ∀ (n : Nat), ∀ (n157_0 : Int32) (n157_1 : Int32) (n157_2 : Int32) (n157_3 : Int32) (q157_M : St), fX9_copy_157 n n157_0 n157_1 n157_2 n157_3 q157_M = some ((q_, s_)) → ∀ (H : Heap) (locs : List Loc), va_P D vwCl (wbX9 K aM q157_M) H → va_D A (wbX9 K aM q157_M) → va_S A s.heap H locs → ∀ (ls : Array Slot), lv_has ls 7 [(0, .ref (aM 0)), (3, .int n157_0), (4, .int n157_1), (5, .int n157_2), (6, .int n157_3)] → W p l e rmX9_copy s m ([.ref (aM 0), .int x1, .int x2, .int x3, .int x4, .int x5] : List Value).toArray below meth c H locs 0 0 (MQ below (zQ (some (.int q_)) D A (wbX9 K aM s_)) ([.ref (aM 0), .int x1, .int x2, .int x3, .int x4, .int x5] : List Value).toArray s 0 0 A) (F0 m 157 ls []) := by
    intro n
    induction n with
    | zero =>
      intro n157_0 n157_1 n157_2 n157_3 q157_M hf
      rw [fX9_copy_157] at hf
      cases hf
    | succ n ih =>
      intro n157_0 n157_1 n157_2 n157_3 q157_M hf H locs hP hD hS ls hl
      rw [fX9_copy_157] at hf
      refine lv_iload X.1 X.2.1 dX9_copy_157 (lv_at hl 4 rfl) ?_
      refine lv_iload X.1 X.2.1 dX9_copy_159 (lv_at hl 3 rfl) ?_
      refine lv_icmp_ge (tgt := 192) X.1 X.2.1 dX9_copy_161 (by decide) (fun c43 => ?_) (fun c43 => ?_)
      · have hf := ite_t hf c43
        refine lv_iconst (v := 1) X.1 X.2.1 dX9_copy_192 (by decide) ?_
        obtain ⟨rfl, rfl⟩ := z_inj2 hf
        exact z_iret X hr hlk hP hD hS dX9_copy_193
      · have hf := ite_f hf c43
        refine lv_aload_n X.1 X.2.1 dX9_copy_164 rfl (lv_at hl 0 rfl) ?_
        refine z_get X hK hP hiX9 0 rfl rfl 41 (by decide) (bw_in W7_18) rfl dX9_copy_165 ?_
        refine lv_bipush (v := 60) X.1 X.2.1 dX9_copy_168 (by decide) ?_
        refine lv_iload_n X.1 X.2.1 dX9_copy_170 rfl (lv_at hl 1 rfl) ?_
        refine lv_imul X.1 X.2.1 dX9_copy_171 ?_
        refine lv_iload X.1 X.2.1 dX9_copy_172 (lv_at hl 2 rfl) ?_
        refine lv_iadd X.1 X.2.1 dX9_copy_174 ?_
        refine lv_iload X.1 X.2.1 dX9_copy_175 (lv_at hl 4 rfl) ?_
        refine lv_iadd X.1 X.2.1 dX9_copy_177 ?_
        refine lv_aload_n X.1 X.2.1 dX9_copy_178 rfl (lv_at hl 0 rfl) ?_
        refine z_get X hK hP hiX9 0 rfl rfl 42 (by decide) (bw_in W7_19) rfl dX9_copy_179 ?_
        refine lv_iload X.1 X.2.1 dX9_copy_182 (lv_at hl 4 rfl) ?_
        obtain ⟨hi45, hf⟩ := chk_e hf
        obtain ⟨v44, ev44, hf⟩ := stp_e hf
        refine z_iald X hK hP 27 rfl hi45 ev44 dX9_copy_184 ?_
        obtain ⟨hi46, hf⟩ := chk_e hf
        obtain ⟨s47, es47, hf⟩ := stp_e hf
        refine z_iast (ws' := wbX9 K aM s47) X hK hP hD hS 26 rfl hi46 dX9_copy_185 (by rw [es47]; rfl) (fun H locs hP hD hS => ?_)
        obtain ⟨w48, ew48, hf⟩ := stp_e hf
        refine lv_iinc (v := w48) (lv' := [(6, .int w48), (0, .ref (aM 0)), (3, .int n157_0), (4, .int n157_1), (5, .int n157_2)]) X.1 X.2.1 dX9_copy_186 hl (k := 4) rfl (by rw [ew48]; rfl) (by decide) rfl (fun ls hl => ?_)
        refine lv_goto (tgt := 157) X.1 X.2.1 dX9_copy_189 (by decide) ?_
        exact ih _ _ _ _ _ hf _ _ hP hD hS _ (lv_sub hl [1, 2, 3, 4, 0] rfl)
  have L120_0 : ∀ (n : Nat), ∀ (n120_0 : Int32) (n120_1 : Int32) (n120_2 : Int32) (n120_3 : Int32) (n120_4 : Int32) (n120_5 : Int32) (q120_M : St), fX9_copy_120 n n120_0 n120_1 n120_2 n120_3 n120_4 n120_5 q120_M = some ((q_, s_)) → ∀ (H : Heap) (locs : List Loc), va_P D vwCl (wbX9 K aM q120_M) H → va_D A (wbX9 K aM q120_M) → va_S A s.heap H locs → ∀ (ls : Array Slot), lv_has ls 7 [(0, .ref (aM 0)), (1, .int n120_0), (2, .int n120_1), (3, .int n120_2), (4, .int n120_3), (5, .int n120_4), (6, .int n120_5)] → W p l e rmX9_copy s m ([.ref (aM 0), .int x1, .int x2, .int x3, .int x4, .int x5] : List Value).toArray below meth c H locs 0 0 (MQ below (zQ (some (.int q_)) D A (wbX9 K aM s_)) ([.ref (aM 0), .int x1, .int x2, .int x3, .int x4, .int x5] : List Value).toArray s 0 0 A) (F0 m 120 ls []) := by
    intro n
    induction n with
    | zero =>
      intro n120_0 n120_1 n120_2 n120_3 n120_4 n120_5 q120_M hf
      rw [fX9_copy_120] at hf
      cases hf
    | succ n ih =>
      intro n120_0 n120_1 n120_2 n120_3 n120_4 n120_5 q120_M hf H locs hP hD hS ls hl
      rw [fX9_copy_120] at hf
      refine lv_iload X.1 X.2.1 dX9_copy_120 (lv_at hl 6 rfl) ?_
      refine lv_iload X.1 X.2.1 dX9_copy_122 (lv_at hl 5 rfl) ?_
      refine lv_icmp_ge (tgt := 154) X.1 X.2.1 dX9_copy_124 (by decide) (fun c42 => ?_) (fun c42 => ?_)
      · have hf := ite_t hf c42
        refine lv_iconst (v := 0) X.1 X.2.1 dX9_copy_154 (by decide) ?_
        refine lv_istore (lv' := [(6, .int 0), (0, .ref (aM 0)), (1, .int n120_0), (2, .int n120_1), (3, .int n120_2), (4, .int n120_3), (5, .int n120_4)]) X.1 X.2.1 dX9_copy_155 hl (by decide) rfl (fun ls hl => ?_)
        exact L157_1  _ _ _ _ _ _ hf _ _ hP hD hS _ (lv_sub hl [1, 4, 5, 6, 0] rfl)
      · have hf := ite_f hf c42
        refine lv_aload_n X.1 X.2.1 dX9_copy_127 rfl (lv_at hl 0 rfl) ?_
        refine z_get X hK hP hiX9 0 rfl rfl 42 (by decide) (bw_in W7_19) rfl dX9_copy_128 ?_
        refine lv_iload X.1 X.2.1 dX9_copy_131 (lv_at hl 6 rfl) ?_
        refine lv_aload_n X.1 X.2.1 dX9_copy_133 rfl (lv_at hl 0 rfl) ?_
        refine z_get X hK hP hiX9 0 rfl rfl 41 (by decide) (bw_in W7_18) rfl dX9_copy_134 ?_
        refine lv_bipush (v := 60) X.1 X.2.1 dX9_copy_137 (by decide) ?_
        refine lv_iload_n X.1 X.2.1 dX9_copy_139 rfl (lv_at hl 1 rfl) ?_
        refine lv_imul X.1 X.2.1 dX9_copy_140 ?_
        refine lv_iload_n X.1 X.2.1 dX9_copy_141 rfl (lv_at hl 2 rfl) ?_
        refine lv_iadd X.1 X.2.1 dX9_copy_142 ?_
        refine lv_iload X.1 X.2.1 dX9_copy_143 (lv_at hl 6 rfl) ?_
        refine lv_iadd X.1 X.2.1 dX9_copy_145 ?_
        obtain ⟨hi50, hf⟩ := chk_e hf
        obtain ⟨v49, ev49, hf⟩ := stp_e hf
        refine z_iald X hK hP 26 rfl hi50 ev49 dX9_copy_146 ?_
        obtain ⟨hi51, hf⟩ := chk_e hf
        obtain ⟨s52, es52, hf⟩ := stp_e hf
        refine z_iast (ws' := wbX9 K aM s52) X hK hP hD hS 27 rfl hi51 dX9_copy_147 (by rw [es52]; rfl) (fun H locs hP hD hS => ?_)
        obtain ⟨w53, ew53, hf⟩ := stp_e hf
        refine lv_iinc (v := w53) (lv' := [(6, .int w53), (0, .ref (aM 0)), (1, .int n120_0), (2, .int n120_1), (3, .int n120_2), (4, .int n120_3), (5, .int n120_4)]) X.1 X.2.1 dX9_copy_148 hl (k := 6) rfl (by rw [ew53]; rfl) (by decide) rfl (fun ls hl => ?_)
        refine lv_goto (tgt := 120) X.1 X.2.1 dX9_copy_151 (by decide) ?_
        exact ih _ _ _ _ _ _ _ hf _ _ hP hD hS _ (lv_sub hl [1, 2, 3, 4, 5, 6, 0] rfl)
  rw [fX9_copy] at hf
  refine lv_iload_n X.1 X.2.1 dX9_copy_0 rfl (lv_at hl 1 rfl) ?_
  obtain ⟨r1, hc2, hf⟩ := bd1_e hf
  refine z_S (n := 1) (As := [.int x1]) (rest := []) X hK hN (kX9_isSheet l D K _ x1 r1 hc2) (bw_S W32_0 W32_1 W1_5 W32_2) rfl ⟨rfl, rfl⟩ (by decide +kernel) rfl ⟨Nat.le_of_ble_eq_true rfl, Nat.le_of_ble_eq_true rfl⟩ (fun _ _ h => by simp at h) ⟨fun _ _ _ _ h => by simp at h, fun _ _ h => by simp at h⟩ (zj_none hP hD hS hA) hS hl.1 rfl (Nat.le_of_ble_eq_true rfl) dX9_copy_1 ⟨Nat.zero_le _, Nat.zero_le _⟩ rfl (fun H locs hP hD hS => ?_)
  refine lv_if_eq (tgt := 14) X.1 X.2.1 dX9_copy_4 (by decide) (fun c3 => ?_) (fun c3 => ?_)
  · have hf := ite_t hf c3
    refine lv_bipush (v := -2) X.1 X.2.1 dX9_copy_14 (by decide) ?_
    obtain ⟨rfl, rfl⟩ := z_inj2 hf
    exact z_iret X hr hlk hP hD hS dX9_copy_16
  · have hf := ite_f hf c3
    refine lv_iload_n X.1 X.2.1 dX9_copy_7 rfl (lv_at hl 3 rfl) ?_
    obtain ⟨r4, hc5, hf⟩ := bd1_e hf
    refine z_S (n := 1) (As := [.int x3]) (rest := []) X hK hN (kX9_isSheet l D K _ x3 r4 hc5) (bw_S W32_0 W32_1 W1_5 W32_2) rfl ⟨rfl, rfl⟩ (by decide +kernel) rfl ⟨Nat.le_of_ble_eq_true rfl, Nat.le_of_ble_eq_true rfl⟩ (fun _ _ h => by simp at h) ⟨fun _ _ _ _ h => by simp at h, fun _ _ h => by simp at h⟩ (zj_none hP hD hS hA) hS hl.1 rfl (Nat.le_of_ble_eq_true rfl) dX9_copy_8 ⟨Nat.zero_le _, Nat.zero_le _⟩ rfl (fun H locs hP hD hS => ?_)
    refine lv_if_ne (tgt := 17) X.1 X.2.1 dX9_copy_11 (by decide) (fun c6 => ?_) (fun c6 => ?_)
    · have hf := ite_f hf c6
      refine lv_aload_n X.1 X.2.1 dX9_copy_17 rfl (lv_at hl 0 rfl) ?_
      refine z_get X hK hP hiX9 0 rfl rfl 38 (by decide) (bw_in W7_15) rfl dX9_copy_18 ?_
      refine lv_iload_n X.1 X.2.1 dX9_copy_21 rfl (lv_at hl 1 rfl) ?_
      obtain ⟨hi8, hf⟩ := chk_e hf
      obtain ⟨v7, ev7, hf⟩ := stp_e hf
      refine z_zald X hK hP 23 rfl hi8 ev7 dX9_copy_22 ?_
      refine lv_if_eq (tgt := 35) X.1 X.2.1 dX9_copy_23 (by decide) (fun c9 => ?_) (fun c9 => ?_)
      · have hf := ite_t hf c9
        refine lv_aload_n X.1 X.2.1 dX9_copy_35 rfl (lv_at hl 0 rfl) ?_
        refine lv_iconst (v := 1) X.1 X.2.1 dX9_copy_36 (by decide) ?_
        obtain ⟨r10, s11, hc12, hf⟩ := bd2_e hf
        refine z_V (n := 1) (As := [.int 1]) (rest := []) (ci := 9) (q0 := 0) X hK hN (kX9_meets l D K aM s0 _ 1 r10 s11 hc12) (bw_V W32_3 W32_4 W32_5 W1_5 W32_6) rfl ⟨rfl, rfl⟩ (by decide +kernel) rfl ⟨Nat.le_of_ble_eq_true rfl, Nat.le_of_ble_eq_true rfl⟩ hP hD rfl rfl (zj_same hD hS hA) hS hl.1 rfl (Nat.le_of_ble_eq_true rfl) dX9_copy_37 ⟨Nat.zero_le _, Nat.zero_le _⟩ rfl (fun H locs hP hD hS => ?_)
        obtain ⟨rfl, rfl⟩ := z_inj2 hf
        exact z_iret X hr hlk hP hD hS dX9_copy_40
      · have hf := ite_f hf c9
        refine lv_aload_n X.1 X.2.1 dX9_copy_26 rfl (lv_at hl 0 rfl) ?_
        refine z_get X hK hP hiX9 0 rfl rfl 38 (by decide) (bw_in W7_15) rfl dX9_copy_27 ?_
        refine lv_iload_n X.1 X.2.1 dX9_copy_30 rfl (lv_at hl 3 rfl) ?_
        obtain ⟨hi14, hf⟩ := chk_e hf
        obtain ⟨v13, ev13, hf⟩ := stp_e hf
        refine z_zald X hK hP 23 rfl hi14 ev13 dX9_copy_31 ?_
        refine lv_if_ne (tgt := 41) X.1 X.2.1 dX9_copy_32 (by decide) (fun c15 => ?_) (fun c15 => ?_)
        · have hf := ite_f hf c15
          refine lv_aload_n X.1 X.2.1 dX9_copy_41 rfl (lv_at hl 0 rfl) ?_
          refine z_get X hK hP hiX9 0 rfl rfl 39 (by decide) (bw_in W7_16) rfl dX9_copy_42 ?_
          refine lv_iload_n X.1 X.2.1 dX9_copy_45 rfl (lv_at hl 1 rfl) ?_
          obtain ⟨hi17, hf⟩ := chk_e hf
          obtain ⟨v16, ev16, hf⟩ := stp_e hf
          refine z_iald X hK hP 24 rfl hi17 ev16 dX9_copy_46 ?_
          refine lv_aload_n X.1 X.2.1 dX9_copy_47 rfl (lv_at hl 0 rfl) ?_
          refine z_get X hK hP hiX9 0 rfl rfl 39 (by decide) (bw_in W7_16) rfl dX9_copy_48 ?_
          refine lv_iload_n X.1 X.2.1 dX9_copy_51 rfl (lv_at hl 3 rfl) ?_
          obtain ⟨hi19, hf⟩ := chk_e hf
          obtain ⟨v18, ev18, hf⟩ := stp_e hf
          refine z_iald X hK hP 24 rfl hi19 ev18 dX9_copy_52 ?_
          refine lv_icmp_eq (tgt := 62) X.1 X.2.1 dX9_copy_53 (by decide) (fun c20 => ?_) (fun c20 => ?_)
          · have hf := ite_t hf c20
            refine lv_iload_n X.1 X.2.1 dX9_copy_62 rfl (lv_at hl 2 rfl) ?_
            refine lv_if_lt (tgt := 111) X.1 X.2.1 dX9_copy_63 (by decide) (fun c21 => ?_) (fun c21 => ?_)
            · have hf := ite_t hf c21
              refine lv_aload_n X.1 X.2.1 dX9_copy_111 rfl (lv_at hl 0 rfl) ?_
              refine lv_iconst (v := 2) X.1 X.2.1 dX9_copy_112 (by decide) ?_
              obtain ⟨r22, s23, hc24, hf⟩ := bd2_e hf
              refine z_V (n := 1) (As := [.int 2]) (rest := []) (ci := 9) (q0 := 0) X hK hN (kX9_meets l D K aM s0 _ 2 r22 s23 hc24) (bw_V W32_3 W32_4 W32_5 W1_5 W32_6) rfl ⟨rfl, rfl⟩ (by decide +kernel) rfl ⟨Nat.le_of_ble_eq_true rfl, Nat.le_of_ble_eq_true rfl⟩ hP hD rfl rfl (zj_same hD hS hA) hS hl.1 rfl (Nat.le_of_ble_eq_true rfl) dX9_copy_113 ⟨Nat.zero_le _, Nat.zero_le _⟩ rfl (fun H locs hP hD hS => ?_)
              obtain ⟨rfl, rfl⟩ := z_inj2 hf
              exact z_iret X hr hlk hP hD hS dX9_copy_116
            · have hf := ite_f hf c21
              refine lv_iload X.1 X.2.1 dX9_copy_66 (lv_at hl 4 rfl) ?_
              refine lv_if_lt (tgt := 111) X.1 X.2.1 dX9_copy_68 (by decide) (fun c25 => ?_) (fun c25 => ?_)
              · have hf := ite_t hf c25
                refine lv_aload_n X.1 X.2.1 dX9_copy_111 rfl (lv_at hl 0 rfl) ?_
                refine lv_iconst (v := 2) X.1 X.2.1 dX9_copy_112 (by decide) ?_
                obtain ⟨r26, s27, hc28, hf⟩ := bd2_e hf
                refine z_V (n := 1) (As := [.int 2]) (rest := []) (ci := 9) (q0 := 0) X hK hN (kX9_meets l D K aM s0 _ 2 r26 s27 hc28) (bw_V W32_3 W32_4 W32_5 W1_5 W32_6) rfl ⟨rfl, rfl⟩ (by decide +kernel) rfl ⟨Nat.le_of_ble_eq_true rfl, Nat.le_of_ble_eq_true rfl⟩ hP hD rfl rfl (zj_same hD hS hA) hS hl.1 rfl (Nat.le_of_ble_eq_true rfl) dX9_copy_113 ⟨Nat.zero_le _, Nat.zero_le _⟩ rfl (fun H locs hP hD hS => ?_)
                obtain ⟨rfl, rfl⟩ := z_inj2 hf
                exact z_iret X hr hlk hP hD hS dX9_copy_116
              · have hf := ite_f hf c25
                refine lv_iload X.1 X.2.1 dX9_copy_71 (lv_at hl 5 rfl) ?_
                refine lv_if_lt (tgt := 111) X.1 X.2.1 dX9_copy_73 (by decide) (fun c29 => ?_) (fun c29 => ?_)
                · have hf := ite_t hf c29
                  refine lv_aload_n X.1 X.2.1 dX9_copy_111 rfl (lv_at hl 0 rfl) ?_
                  refine lv_iconst (v := 2) X.1 X.2.1 dX9_copy_112 (by decide) ?_
                  obtain ⟨r30, s31, hc32, hf⟩ := bd2_e hf
                  refine z_V (n := 1) (As := [.int 2]) (rest := []) (ci := 9) (q0 := 0) X hK hN (kX9_meets l D K aM s0 _ 2 r30 s31 hc32) (bw_V W32_3 W32_4 W32_5 W1_5 W32_6) rfl ⟨rfl, rfl⟩ (by decide +kernel) rfl ⟨Nat.le_of_ble_eq_true rfl, Nat.le_of_ble_eq_true rfl⟩ hP hD rfl rfl (zj_same hD hS hA) hS hl.1 rfl (Nat.le_of_ble_eq_true rfl) dX9_copy_113 ⟨Nat.zero_le _, Nat.zero_le _⟩ rfl (fun H locs hP hD hS => ?_)
                  obtain ⟨rfl, rfl⟩ := z_inj2 hf
                  exact z_iret X hr hlk hP hD hS dX9_copy_116
                · have hf := ite_f hf c29
                  refine lv_iload_n X.1 X.2.1 dX9_copy_76 rfl (lv_at hl 2 rfl) ?_
                  refine lv_i2l X.1 X.2.1 dX9_copy_77 rfl ?_
                  refine lv_iload X.1 X.2.1 dX9_copy_78 (lv_at hl 5 rfl) ?_
                  refine lv_i2l X.1 X.2.1 dX9_copy_80 rfl ?_
                  refine lv_ladd X.1 X.2.1 dX9_copy_81 ?_
                  refine lv_aload_n X.1 X.2.1 dX9_copy_82 rfl (lv_at hl 0 rfl) ?_
                  refine z_get X hK hP hiX9 0 rfl rfl 40 (by decide) (bw_in W7_17) rfl dX9_copy_83 ?_
                  refine lv_iload_n X.1 X.2.1 dX9_copy_86 rfl (lv_at hl 1 rfl) ?_
                  obtain ⟨hi34, hf⟩ := chk_e hf
                  obtain ⟨v33, ev33, hf⟩ := stp_e hf
                  refine z_iald X hK hP 25 rfl hi34 ev33 dX9_copy_87 ?_
                  refine lv_i2l X.1 X.2.1 dX9_copy_88 rfl ?_
                  refine W.lcmp X.1 X.2.1 dX9_copy_89 ?_
                  refine lv_if_gt (tgt := 111) X.1 X.2.1 dX9_copy_90 (by decide) (fun c35 => ?_) (fun c35 => ?_)
                  · have hf := ite_t hf c35
                    refine lv_aload_n X.1 X.2.1 dX9_copy_111 rfl (lv_at hl 0 rfl) ?_
                    refine lv_iconst (v := 2) X.1 X.2.1 dX9_copy_112 (by decide) ?_
                    obtain ⟨r36, s37, hc38, hf⟩ := bd2_e hf
                    refine z_V (n := 1) (As := [.int 2]) (rest := []) (ci := 9) (q0 := 0) X hK hN (kX9_meets l D K aM s0 _ 2 r36 s37 hc38) (bw_V W32_3 W32_4 W32_5 W1_5 W32_6) rfl ⟨rfl, rfl⟩ (by decide +kernel) rfl ⟨Nat.le_of_ble_eq_true rfl, Nat.le_of_ble_eq_true rfl⟩ hP hD rfl rfl (zj_same hD hS hA) hS hl.1 rfl (Nat.le_of_ble_eq_true rfl) dX9_copy_113 ⟨Nat.zero_le _, Nat.zero_le _⟩ rfl (fun H locs hP hD hS => ?_)
                    obtain ⟨rfl, rfl⟩ := z_inj2 hf
                    exact z_iret X hr hlk hP hD hS dX9_copy_116
                  · have hf := ite_f hf c35
                    refine lv_iload X.1 X.2.1 dX9_copy_93 (lv_at hl 4 rfl) ?_
                    refine lv_i2l X.1 X.2.1 dX9_copy_95 rfl ?_
                    refine lv_iload X.1 X.2.1 dX9_copy_96 (lv_at hl 5 rfl) ?_
                    refine lv_i2l X.1 X.2.1 dX9_copy_98 rfl ?_
                    refine lv_ladd X.1 X.2.1 dX9_copy_99 ?_
                    refine lv_aload_n X.1 X.2.1 dX9_copy_100 rfl (lv_at hl 0 rfl) ?_
                    refine z_get X hK hP hiX9 0 rfl rfl 40 (by decide) (bw_in W7_17) rfl dX9_copy_101 ?_
                    refine lv_iload_n X.1 X.2.1 dX9_copy_104 rfl (lv_at hl 3 rfl) ?_
                    obtain ⟨hi40, hf⟩ := chk_e hf
                    obtain ⟨v39, ev39, hf⟩ := stp_e hf
                    refine z_iald X hK hP 25 rfl hi40 ev39 dX9_copy_105 ?_
                    refine lv_i2l X.1 X.2.1 dX9_copy_106 rfl ?_
                    refine W.lcmp X.1 X.2.1 dX9_copy_107 ?_
                    refine lv_if_le (tgt := 117) X.1 X.2.1 dX9_copy_108 (by decide) (fun c41 => ?_) (fun c41 => ?_)
                    · have hf := ite_t hf c41
                      refine lv_iconst (v := 0) X.1 X.2.1 dX9_copy_117 (by decide) ?_
                      refine lv_istore (lv' := [(6, .int 0), (0, .ref (aM 0)), (1, .int x1), (2, .int x2), (3, .int x3), (4, .int x4), (5, .int x5)]) X.1 X.2.1 dX9_copy_118 hl (by decide) rfl (fun ls hl => ?_)
                      exact L120_0  _ _ _ _ _ _ _ _ hf _ _ hP hD hS _ (lv_sub hl [1, 2, 3, 4, 5, 6, 0] rfl)
                    · have hf := ite_f hf c41
                      refine lv_aload_n X.1 X.2.1 dX9_copy_111 rfl (lv_at hl 0 rfl) ?_
                      refine lv_iconst (v := 2) X.1 X.2.1 dX9_copy_112 (by decide) ?_
                      obtain ⟨r54, s55, hc56, hf⟩ := bd2_e hf
                      refine z_V (n := 1) (As := [.int 2]) (rest := []) (ci := 9) (q0 := 0) X hK hN (kX9_meets l D K aM s0 _ 2 r54 s55 hc56) (bw_V W32_3 W32_4 W32_5 W1_5 W32_6) rfl ⟨rfl, rfl⟩ (by decide +kernel) rfl ⟨Nat.le_of_ble_eq_true rfl, Nat.le_of_ble_eq_true rfl⟩ hP hD rfl rfl (zj_same hD hS hA) hS hl.1 rfl (Nat.le_of_ble_eq_true rfl) dX9_copy_113 ⟨Nat.zero_le _, Nat.zero_le _⟩ rfl (fun H locs hP hD hS => ?_)
                      obtain ⟨rfl, rfl⟩ := z_inj2 hf
                      exact z_iret X hr hlk hP hD hS dX9_copy_116
          · have hf := ite_f hf c20
            refine lv_aload_n X.1 X.2.1 dX9_copy_56 rfl (lv_at hl 0 rfl) ?_
            refine lv_iconst (v := 4) X.1 X.2.1 dX9_copy_57 (by decide) ?_
            obtain ⟨r57, s58, hc59, hf⟩ := bd2_e hf
            refine z_V (n := 1) (As := [.int 4]) (rest := []) (ci := 9) (q0 := 0) X hK hN (kX9_meets l D K aM s0 _ 4 r57 s58 hc59) (bw_V W32_3 W32_4 W32_5 W1_5 W32_6) rfl ⟨rfl, rfl⟩ (by decide +kernel) rfl ⟨Nat.le_of_ble_eq_true rfl, Nat.le_of_ble_eq_true rfl⟩ hP hD rfl rfl (zj_same hD hS hA) hS hl.1 rfl (Nat.le_of_ble_eq_true rfl) dX9_copy_58 ⟨Nat.zero_le _, Nat.zero_le _⟩ rfl (fun H locs hP hD hS => ?_)
            obtain ⟨rfl, rfl⟩ := z_inj2 hf
            exact z_iret X hr hlk hP hD hS dX9_copy_61
        · have hf := ite_t hf c15
          refine lv_aload_n X.1 X.2.1 dX9_copy_35 rfl (lv_at hl 0 rfl) ?_
          refine lv_iconst (v := 1) X.1 X.2.1 dX9_copy_36 (by decide) ?_
          obtain ⟨r60, s61, hc62, hf⟩ := bd2_e hf
          refine z_V (n := 1) (As := [.int 1]) (rest := []) (ci := 9) (q0 := 0) X hK hN (kX9_meets l D K aM s0 _ 1 r60 s61 hc62) (bw_V W32_3 W32_4 W32_5 W1_5 W32_6) rfl ⟨rfl, rfl⟩ (by decide +kernel) rfl ⟨Nat.le_of_ble_eq_true rfl, Nat.le_of_ble_eq_true rfl⟩ hP hD rfl rfl (zj_same hD hS hA) hS hl.1 rfl (Nat.le_of_ble_eq_true rfl) dX9_copy_37 ⟨Nat.zero_le _, Nat.zero_le _⟩ rfl (fun H locs hP hD hS => ?_)
          obtain ⟨rfl, rfl⟩ := z_inj2 hf
          exact z_iret X hr hlk hP hD hS dX9_copy_40
    · have hf := ite_t hf c6
      refine lv_bipush (v := -2) X.1 X.2.1 dX9_copy_14 (by decide) ?_
      obtain ⟨rfl, rfl⟩ := z_inj2 hf
      exact z_iret X hr hlk hP hD hS dX9_copy_16
abbrev rmX9_sumOf : Room := { frames := 8, cells := 0, slots := 0, locals := 183 }
set_option maxHeartbeats 4000000 in
set_option maxRecDepth 100000 in
theorem kX9_sumOf (l : Launch) (D : va_G) (K : Nat → ClassId) (aM : Nat → Nat) (s0 : St) (sz : Nat) (x1 : Int32) (q_ : Int32) (s_ : St) (hf : fX9_sumOf s0 x1 = some (q_, s_)) : Met l yX9_sumOf (bw (Cond.code yX9_sumOf cX9_sumOf 4 (some .int))) rmX9_sumOf (va_Pc [.ref (aM 0), .int x1] (zB D K sz (wbX9 K aM s0))) (zQ (some (.int q_)) D (va_A (wbX9 K aM s0) sz) (wbX9 K aM s_)) 0 0 (va_A (wbX9 K aM s0) sz) := by
  refine z_of (cc := cX9_sumOf) (maxL := 4) (ret := (some .int)) (own := RX9) (lv := [(0, .ref (aM 0)), (1, .int x1)]) (by decide) rfl rfl (Nat.le_of_ble_eq_true rfl) rfl ?_
  intro p e s m below meth c X hr hlk hK hN hsz hP hD hA hS hin ls hl
  generalize va_A (wbX9 K aM s0) sz = A at hD hA hS hN ⊢
  have hiX9 : ∀ w ∈ u_ws RX9 TX9 44, w ∈ (bw (Cond.code yX9_sumOf cX9_sumOf 4 (some .int))) := fun w h => bw_in (inlX9 w h)
  have L8_0 : ∀ (n : Nat), ∀ (n8_0 : Int32) (n8_1 : Int32) (n8_2 : Int32) (q8_M : St), fX9_sumOf_8 n n8_0 n8_1 n8_2 q8_M = some ((q_, s_)) → ∀ (H : Heap) (locs : List Loc), va_P D vwCl (wbX9 K aM q8_M) H → va_D A (wbX9 K aM q8_M) → va_S A s.heap H locs → ∀ (ls : Array Slot), lv_has ls 4 [(0, .ref (aM 0)), (1, .int n8_0), (2, .int n8_1), (3, .int n8_2)] → W p l e rmX9_sumOf s m ([.ref (aM 0), .int x1] : List Value).toArray below meth c H locs 0 0 (MQ below (zQ (some (.int q_)) D A (wbX9 K aM s_)) ([.ref (aM 0), .int x1] : List Value).toArray s 0 0 A) (F0 m 8 ls []) := by
    intro n
    induction n with
    | zero =>
      intro n8_0 n8_1 n8_2 q8_M hf
      rw [fX9_sumOf_8] at hf
      cases hf
    | succ n ih =>
      intro n8_0 n8_1 n8_2 q8_M hf H locs hP hD hS ls hl
      rw [fX9_sumOf_8] at hf
      refine lv_iload_n X.1 X.2.1 dX9_sumOf_8 rfl (lv_at hl 3 rfl) ?_
      refine lv_aload_n X.1 X.2.1 dX9_sumOf_9 rfl (lv_at hl 0 rfl) ?_
      refine z_get X hK hP hiX9 0 rfl rfl 2 (by decide) (bw_in W10_12) rfl dX9_sumOf_10 ?_
      refine lv_icmp_ge (tgt := 40) X.1 X.2.1 dX9_sumOf_13 (by decide) (fun c3 => ?_) (fun c3 => ?_)
      · have hf := ite_t hf c3
        refine lv_iload_n X.1 X.2.1 dX9_sumOf_40 rfl (lv_at hl 1 rfl) ?_
        refine lv_if_ne (tgt := 51) X.1 X.2.1 dX9_sumOf_41 (by decide) (fun c4 => ?_) (fun c4 => ?_)
        · have hf := ite_f hf c4
          refine lv_iload_n X.1 X.2.1 dX9_sumOf_51 rfl (lv_at hl 1 rfl) ?_
          refine lv_iconst (v := 1) X.1 X.2.1 dX9_sumOf_52 (by decide) ?_
          refine lv_icmp_ne (tgt := 63) X.1 X.2.1 dX9_sumOf_53 (by decide) (fun c5 => ?_) (fun c5 => ?_)
          · have hf := ite_f hf c5
            refine lv_iload_n X.1 X.2.1 dX9_sumOf_63 rfl (lv_at hl 1 rfl) ?_
            refine lv_iconst (v := 2) X.1 X.2.1 dX9_sumOf_64 (by decide) ?_
            refine lv_icmp_ne (tgt := 75) X.1 X.2.1 dX9_sumOf_65 (by decide) (fun c6 => ?_) (fun c6 => ?_)
            · have hf := ite_f hf c6
              refine lv_iload_n X.1 X.2.1 dX9_sumOf_75 rfl (lv_at hl 2 rfl) ?_
              obtain ⟨rfl, rfl⟩ := z_inj2 hf
              exact z_iret X hr hlk hP hD hS dX9_sumOf_76
            · have hf := ite_t hf c6
              refine lv_aload_n X.1 X.2.1 dX9_sumOf_68 rfl (lv_at hl 0 rfl) ?_
              refine z_get X hK hP hiX9 0 rfl rfl 9 (by decide) (bw_in W11_6) rfl dX9_sumOf_69 ?_
              refine lv_goto (tgt := 76) X.1 X.2.1 dX9_sumOf_72 (by decide) ?_
              obtain ⟨rfl, rfl⟩ := z_inj2 hf
              exact z_iret X hr hlk hP hD hS dX9_sumOf_76
          · have hf := ite_t hf c5
            refine lv_aload_n X.1 X.2.1 dX9_sumOf_56 rfl (lv_at hl 0 rfl) ?_
            refine z_get X hK hP hiX9 0 rfl rfl 6 (by decide) (bw_in W10_13) rfl dX9_sumOf_57 ?_
            refine lv_goto (tgt := 76) X.1 X.2.1 dX9_sumOf_60 (by decide) ?_
            obtain ⟨rfl, rfl⟩ := z_inj2 hf
            exact z_iret X hr hlk hP hD hS dX9_sumOf_76
        · have hf := ite_t hf c4
          refine lv_aload_n X.1 X.2.1 dX9_sumOf_44 rfl (lv_at hl 0 rfl) ?_
          refine z_get X hK hP hiX9 0 rfl rfl 2 (by decide) (bw_in W10_12) rfl dX9_sumOf_45 ?_
          refine lv_goto (tgt := 76) X.1 X.2.1 dX9_sumOf_48 (by decide) ?_
          obtain ⟨rfl, rfl⟩ := z_inj2 hf
          exact z_iret X hr hlk hP hD hS dX9_sumOf_76
      · have hf := ite_f hf c3
        refine lv_iload_n X.1 X.2.1 dX9_sumOf_16 rfl (lv_at hl 2 rfl) ?_
        refine lv_aload_n X.1 X.2.1 dX9_sumOf_17 rfl (lv_at hl 0 rfl) ?_
        refine z_get X hK hP hiX9 0 rfl rfl 27 (by decide) (bw_in W7_6) rfl dX9_sumOf_18 ?_
        refine lv_iload_n X.1 X.2.1 dX9_sumOf_21 rfl (lv_at hl 3 rfl) ?_
        obtain ⟨hi8, hf⟩ := chk_e hf
        obtain ⟨v7, ev7, hf⟩ := stp_e hf
        refine z_iald X hK hP 15 rfl hi8 ev7 dX9_sumOf_22 ?_
        refine lv_iconst (v := -1) X.1 X.2.1 dX9_sumOf_23 (by decide) ?_
        refine lv_icmp_eq (tgt := 31) X.1 X.2.1 dX9_sumOf_24 (by decide) (fun c9 => ?_) (fun c9 => ?_)
        · have hf := ite_t hf c9
          refine lv_iconst (v := 0) X.1 X.2.1 dX9_sumOf_31 (by decide) ?_
          refine lv_iadd X.1 X.2.1 dX9_sumOf_32 ?_
          obtain ⟨w10, ew10, hf⟩ := stp_e hf
          refine z_top ew10 ?_
          refine lv_istore_n (lv' := [(2, .int w10), (0, .ref (aM 0)), (1, .int n8_0), (3, .int n8_2)]) X.1 X.2.1 dX9_sumOf_33 rfl hl (by decide) rfl (fun ls hl => ?_)
          obtain ⟨w11, ew11, hf⟩ := stp_e hf
          refine lv_iinc (v := w11) (lv' := [(3, .int w11), (2, .int w10), (0, .ref (aM 0)), (1, .int n8_0)]) X.1 X.2.1 dX9_sumOf_34 hl (k := 3) rfl (by rw [ew11]; rfl) (by decide) rfl (fun ls hl => ?_)
          refine lv_goto (tgt := 8) X.1 X.2.1 dX9_sumOf_37 (by decide) ?_
          exact ih _ _ _ _ hf _ _ hP hD hS _ (lv_sub hl [2, 3, 1, 0] rfl)
        · have hf := ite_f hf c9
          refine lv_iconst (v := 1) X.1 X.2.1 dX9_sumOf_27 (by decide) ?_
          refine lv_goto (tgt := 32) X.1 X.2.1 dX9_sumOf_28 (by decide) ?_
          refine lv_iadd X.1 X.2.1 dX9_sumOf_32 ?_
          obtain ⟨w12, ew12, hf⟩ := stp_e hf
          refine z_top ew12 ?_
          refine lv_istore_n (lv' := [(2, .int w12), (0, .ref (aM 0)), (1, .int n8_0), (3, .int n8_2)]) X.1 X.2.1 dX9_sumOf_33 rfl hl (by decide) rfl (fun ls hl => ?_)
          obtain ⟨w13, ew13, hf⟩ := stp_e hf
          refine lv_iinc (v := w13) (lv' := [(3, .int w13), (2, .int w12), (0, .ref (aM 0)), (1, .int n8_0)]) X.1 X.2.1 dX9_sumOf_34 hl (k := 3) rfl (by rw [ew13]; rfl) (by decide) rfl (fun ls hl => ?_)
          refine lv_goto (tgt := 8) X.1 X.2.1 dX9_sumOf_37 (by decide) ?_
          exact ih _ _ _ _ hf _ _ hP hD hS _ (lv_sub hl [2, 3, 1, 0] rfl)
  rw [fX9_sumOf] at hf
  refine lv_aload_n X.1 X.2.1 dX9_sumOf_0 rfl (lv_at hl 0 rfl) ?_
  obtain ⟨s1, hc2, hf⟩ := bd1_e hf
  refine z_V (n := 0) (As := []) (rest := []) (ci := 9) (q0 := 0) X hK hN (kX9_runsTold l D K aM s0 _ s1 hc2) (bw_V W19_23 W20_0 W20_1 W1_5 W20_2) rfl ⟨rfl, rfl⟩ (by decide +kernel) rfl ⟨Nat.le_of_ble_eq_true rfl, Nat.le_of_ble_eq_true rfl⟩ hP hD rfl rfl (zj_same hD hS hA) hS hl.1 rfl (Nat.le_of_ble_eq_true rfl) dX9_sumOf_1 ⟨Nat.zero_le _, Nat.zero_le _⟩ rfl (fun H locs hP hD hS => ?_)
  refine lv_iconst (v := 0) X.1 X.2.1 dX9_sumOf_4 (by decide) ?_
  refine lv_istore_n (lv' := [(2, .int 0), (0, .ref (aM 0)), (1, .int x1)]) X.1 X.2.1 dX9_sumOf_5 rfl hl (by decide) rfl (fun ls hl => ?_)
  refine lv_iconst (v := 0) X.1 X.2.1 dX9_sumOf_6 (by decide) ?_
  refine lv_istore_n (lv' := [(3, .int 0), (2, .int 0), (0, .ref (aM 0)), (1, .int x1)]) X.1 X.2.1 dX9_sumOf_7 rfl hl (by decide) rfl (fun ls hl => ?_)
  exact L8_0  _ _ _ _ _ hf _ _ hP hD hS _ (lv_sub hl [2, 3, 1, 0] rfl)
abbrev rmX9_count : Room := { frames := 9, cells := 0, slots := 0, locals := 206 }
set_option maxHeartbeats 4000000 in
set_option maxRecDepth 100000 in
theorem kX9_count (l : Launch) (D : va_G) (K : Nat → ClassId) (aM : Nat → Nat) (s0 : St) (sz : Nat) (x1 : Int32) (q_ : Int32) (s_ : St) (hf : fX9_count s0 x1 = some (q_, s_)) : Met l yX9_count (bw (Cond.code yX9_count cX9_count 2 (some .int))) rmX9_count (va_Pc [.ref (aM 0), .int x1] (zB D K sz (wbX9 K aM s0))) (zQ (some (.int q_)) D (va_A (wbX9 K aM s0) sz) (wbX9 K aM s_)) 0 0 (va_A (wbX9 K aM s0) sz) := by
  refine z_of (cc := cX9_count) (maxL := 2) (ret := (some .int)) (own := RX9) (lv := [(0, .ref (aM 0)), (1, .int x1)]) (by decide) rfl rfl (Nat.le_of_ble_eq_true rfl) rfl ?_
  intro p e s m below meth c X hr hlk hK hN hsz hP hD hA hS hin ls hl
  generalize va_A (wbX9 K aM s0) sz = A at hD hA hS hN ⊢
  have hiX9 : ∀ w ∈ u_ws RX9 TX9 44, w ∈ (bw (Cond.code yX9_count cX9_count 2 (some .int))) := fun w h => bw_in (inlX9 w h)
  rw [fX9_count] at hf
  refine lv_iload_n X.1 X.2.1 dX9_count_0 rfl (lv_at hl 1 rfl) ?_
  by_cases c1 : x1 = 0
  · have hf := ite_t hf c1
    refine lv_tableIn (tgt := 52) X.1 X.2.1 dX9_count_1 (by rw [c1]; decide) (by rw [c1]; decide) (by rw [c1]; rfl) (by decide) ?_
    refine lv_aload_n X.1 X.2.1 dX9_count_52 rfl (lv_at hl 0 rfl) ?_
    refine lv_iload_n X.1 X.2.1 dX9_count_53 rfl (lv_at hl 1 rfl) ?_
    obtain ⟨r2, s3, hc4, hf⟩ := bd2_e hf
    refine z_V (n := 1) (As := [.int x1]) (rest := []) (ci := 9) (q0 := 0) X hK hN (kX9_sumOf l D K aM s0 _ x1 r2 s3 hc4) (bw_V W42_8 W42_9 W42_10 W1_5 W42_11) rfl ⟨rfl, rfl⟩ (by decide +kernel) rfl ⟨Nat.le_of_ble_eq_true rfl, Nat.le_of_ble_eq_true rfl⟩ hP hD rfl rfl (zj_same hD hS hA) hS hl.1 rfl (Nat.le_of_ble_eq_true rfl) dX9_count_54 ⟨Nat.zero_le _, Nat.zero_le _⟩ rfl (fun H locs hP hD hS => ?_)
    obtain ⟨rfl, rfl⟩ := z_inj2 hf
    exact z_iret X hr hlk hP hD hS dX9_count_57
  have hf := ite_f hf c1
  by_cases c5 : x1 = 1
  · have hf := ite_t hf c5
    refine lv_tableIn (tgt := 52) X.1 X.2.1 dX9_count_1 (by rw [c5]; decide) (by rw [c5]; decide) (by rw [c5]; rfl) (by decide) ?_
    refine lv_aload_n X.1 X.2.1 dX9_count_52 rfl (lv_at hl 0 rfl) ?_
    refine lv_iload_n X.1 X.2.1 dX9_count_53 rfl (lv_at hl 1 rfl) ?_
    obtain ⟨r6, s7, hc8, hf⟩ := bd2_e hf
    refine z_V (n := 1) (As := [.int x1]) (rest := []) (ci := 9) (q0 := 0) X hK hN (kX9_sumOf l D K aM s0 _ x1 r6 s7 hc8) (bw_V W42_8 W42_9 W42_10 W1_5 W42_11) rfl ⟨rfl, rfl⟩ (by decide +kernel) rfl ⟨Nat.le_of_ble_eq_true rfl, Nat.le_of_ble_eq_true rfl⟩ hP hD rfl rfl (zj_same hD hS hA) hS hl.1 rfl (Nat.le_of_ble_eq_true rfl) dX9_count_54 ⟨Nat.zero_le _, Nat.zero_le _⟩ rfl (fun H locs hP hD hS => ?_)
    obtain ⟨rfl, rfl⟩ := z_inj2 hf
    exact z_iret X hr hlk hP hD hS dX9_count_57
  have hf := ite_f hf c5
  by_cases c9 : x1 = 2
  · have hf := ite_t hf c9
    refine lv_tableIn (tgt := 52) X.1 X.2.1 dX9_count_1 (by rw [c9]; decide) (by rw [c9]; decide) (by rw [c9]; rfl) (by decide) ?_
    refine lv_aload_n X.1 X.2.1 dX9_count_52 rfl (lv_at hl 0 rfl) ?_
    refine lv_iload_n X.1 X.2.1 dX9_count_53 rfl (lv_at hl 1 rfl) ?_
    obtain ⟨r10, s11, hc12, hf⟩ := bd2_e hf
    refine z_V (n := 1) (As := [.int x1]) (rest := []) (ci := 9) (q0 := 0) X hK hN (kX9_sumOf l D K aM s0 _ x1 r10 s11 hc12) (bw_V W42_8 W42_9 W42_10 W1_5 W42_11) rfl ⟨rfl, rfl⟩ (by decide +kernel) rfl ⟨Nat.le_of_ble_eq_true rfl, Nat.le_of_ble_eq_true rfl⟩ hP hD rfl rfl (zj_same hD hS hA) hS hl.1 rfl (Nat.le_of_ble_eq_true rfl) dX9_count_54 ⟨Nat.zero_le _, Nat.zero_le _⟩ rfl (fun H locs hP hD hS => ?_)
    obtain ⟨rfl, rfl⟩ := z_inj2 hf
    exact z_iret X hr hlk hP hD hS dX9_count_57
  have hf := ite_f hf c9
  by_cases c13 : x1 = 3
  · have hf := ite_t hf c13
    refine lv_tableIn (tgt := 58) X.1 X.2.1 dX9_count_1 (by rw [c13]; decide) (by rw [c13]; decide) (by rw [c13]; rfl) (by decide) ?_
    refine lv_aload_n X.1 X.2.1 dX9_count_58 rfl (lv_at hl 0 rfl) ?_
    refine z_get X hK hP hiX9 0 rfl rfl 0 (by decide) (bw_in W6_16) rfl dX9_count_59 ?_
    refine lv_iload_n X.1 X.2.1 dX9_count_62 rfl (lv_at hl 1 rfl) ?_
    refine lv_iconst (v := 3) X.1 X.2.1 dX9_count_63 (by decide) ?_
    refine lv_isub X.1 X.2.1 dX9_count_64 ?_
    obtain ⟨hi15, hf⟩ := chk_e hf
    obtain ⟨v14, ev14, hf⟩ := stp_e hf
    refine z_iald X hK hP 1 rfl hi15 ev14 dX9_count_65 ?_
    obtain ⟨rfl, rfl⟩ := z_inj2 hf
    exact z_iret X hr hlk hP hD hS dX9_count_66
  have hf := ite_f hf c13
  by_cases c16 : x1 = 4
  · have hf := ite_t hf c16
    refine lv_tableIn (tgt := 58) X.1 X.2.1 dX9_count_1 (by rw [c16]; decide) (by rw [c16]; decide) (by rw [c16]; rfl) (by decide) ?_
    refine lv_aload_n X.1 X.2.1 dX9_count_58 rfl (lv_at hl 0 rfl) ?_
    refine z_get X hK hP hiX9 0 rfl rfl 0 (by decide) (bw_in W6_16) rfl dX9_count_59 ?_
    refine lv_iload_n X.1 X.2.1 dX9_count_62 rfl (lv_at hl 1 rfl) ?_
    refine lv_iconst (v := 3) X.1 X.2.1 dX9_count_63 (by decide) ?_
    refine lv_isub X.1 X.2.1 dX9_count_64 ?_
    obtain ⟨hi18, hf⟩ := chk_e hf
    obtain ⟨v17, ev17, hf⟩ := stp_e hf
    refine z_iald X hK hP 1 rfl hi18 ev17 dX9_count_65 ?_
    obtain ⟨rfl, rfl⟩ := z_inj2 hf
    exact z_iret X hr hlk hP hD hS dX9_count_66
  have hf := ite_f hf c16
  by_cases c19 : x1 = 5
  · have hf := ite_t hf c19
    refine lv_tableIn (tgt := 58) X.1 X.2.1 dX9_count_1 (by rw [c19]; decide) (by rw [c19]; decide) (by rw [c19]; rfl) (by decide) ?_
    refine lv_aload_n X.1 X.2.1 dX9_count_58 rfl (lv_at hl 0 rfl) ?_
    refine z_get X hK hP hiX9 0 rfl rfl 0 (by decide) (bw_in W6_16) rfl dX9_count_59 ?_
    refine lv_iload_n X.1 X.2.1 dX9_count_62 rfl (lv_at hl 1 rfl) ?_
    refine lv_iconst (v := 3) X.1 X.2.1 dX9_count_63 (by decide) ?_
    refine lv_isub X.1 X.2.1 dX9_count_64 ?_
    obtain ⟨hi21, hf⟩ := chk_e hf
    obtain ⟨v20, ev20, hf⟩ := stp_e hf
    refine z_iald X hK hP 1 rfl hi21 ev20 dX9_count_65 ?_
    obtain ⟨rfl, rfl⟩ := z_inj2 hf
    exact z_iret X hr hlk hP hD hS dX9_count_66
  have hf := ite_f hf c19
  by_cases c22 : x1 = 6
  · have hf := ite_t hf c22
    refine lv_tableIn (tgt := 52) X.1 X.2.1 dX9_count_1 (by rw [c22]; decide) (by rw [c22]; decide) (by rw [c22]; rfl) (by decide) ?_
    refine lv_aload_n X.1 X.2.1 dX9_count_52 rfl (lv_at hl 0 rfl) ?_
    refine lv_iload_n X.1 X.2.1 dX9_count_53 rfl (lv_at hl 1 rfl) ?_
    obtain ⟨r23, s24, hc25, hf⟩ := bd2_e hf
    refine z_V (n := 1) (As := [.int x1]) (rest := []) (ci := 9) (q0 := 0) X hK hN (kX9_sumOf l D K aM s0 _ x1 r23 s24 hc25) (bw_V W42_8 W42_9 W42_10 W1_5 W42_11) rfl ⟨rfl, rfl⟩ (by decide +kernel) rfl ⟨Nat.le_of_ble_eq_true rfl, Nat.le_of_ble_eq_true rfl⟩ hP hD rfl rfl (zj_same hD hS hA) hS hl.1 rfl (Nat.le_of_ble_eq_true rfl) dX9_count_54 ⟨Nat.zero_le _, Nat.zero_le _⟩ rfl (fun H locs hP hD hS => ?_)
    obtain ⟨rfl, rfl⟩ := z_inj2 hf
    exact z_iret X hr hlk hP hD hS dX9_count_57
  have hf := ite_f hf c22
  by_cases c26 : x1 = 7
  · have hf := ite_t hf c26
    refine lv_tableIn (tgt := 67) X.1 X.2.1 dX9_count_1 (by rw [c26]; decide) (by rw [c26]; decide) (by rw [c26]; rfl) (by decide) ?_
    refine lv_aload_n X.1 X.2.1 dX9_count_67 rfl (lv_at hl 0 rfl) ?_
    refine z_get X hK hP hiX9 0 rfl rfl 34 (by decide) (bw_in W30_21) rfl dX9_count_68 ?_
    obtain ⟨rfl, rfl⟩ := z_inj2 hf
    exact z_iret X hr hlk hP hD hS dX9_count_71
  have hf := ite_f hf c26
  by_cases c27 : x1 = 8
  · have hf := ite_t hf c27
    refine lv_tableIn (tgt := 72) X.1 X.2.1 dX9_count_1 (by rw [c27]; decide) (by rw [c27]; decide) (by rw [c27]; rfl) (by decide) ?_
    refine lv_aload_n X.1 X.2.1 dX9_count_72 rfl (lv_at hl 0 rfl) ?_
    refine z_get X hK hP hiX9 0 rfl rfl 43 (by decide) (bw_in W32_7) rfl dX9_count_73 ?_
    obtain ⟨rfl, rfl⟩ := z_inj2 hf
    exact z_iret X hr hlk hP hD hS dX9_count_76
  have hf := ite_f hf c27
  refine lv_tableOut (tgt := 77) X.1 X.2.1 dX9_count_1 (by have nc1 := lv_neT c1 (a := 0) (by decide); have nc5 := lv_neT c5 (a := 1) (by decide); have nc9 := lv_neT c9 (a := 2) (by decide); have nc13 := lv_neT c13 (a := 3) (by decide); have nc16 := lv_neT c16 (a := 4) (by decide); have nc19 := lv_neT c19 (a := 5) (by decide); have nc22 := lv_neT c22 (a := 6) (by decide); have nc26 := lv_neT c26 (a := 7) (by decide); have nc27 := lv_neT c27 (a := 8) (by decide); omega) (by decide) ?_
  refine lv_bipush (v := -2) X.1 X.2.1 dX9_count_77 (by decide) ?_
  obtain ⟨rfl, rfl⟩ := z_inj2 hf
  exact z_iret X hr hlk hP hD hS dX9_count_79
abbrev rmX9_dayOf : Room := { frames := 7, cells := 0, slots := 0, locals := 163 }
set_option maxHeartbeats 4000000 in
set_option maxRecDepth 100000 in
theorem kX9_dayOf (l : Launch) (D : va_G) (K : Nat → ClassId) (aM : Nat → Nat) (s0 : St) (sz : Nat) (x1 : Int32) (x2 : Int32) (x3 : Int32) (q_ : Int32) (s_ : St) (hf : fX9_dayOf s0 x1 x2 x3 = some (q_, s_)) : Met l yX9_dayOf (bw (Cond.code yX9_dayOf cX9_dayOf 7 (some .int))) rmX9_dayOf (va_Pc [.ref (aM 0), .int x1, .int x2, .int x3] (zB D K sz (wbX9 K aM s0))) (zQ (some (.int q_)) D (va_A (wbX9 K aM s0) sz) (wbX9 K aM s_)) 0 0 (va_A (wbX9 K aM s0) sz) := by
  refine z_of (cc := cX9_dayOf) (maxL := 7) (ret := (some .int)) (own := RX9) (lv := [(0, .ref (aM 0)), (1, .int x1), (2, .int x2), (3, .int x3)]) (by decide) rfl rfl (Nat.le_of_ble_eq_true rfl) rfl ?_
  intro p e s m below meth c X hr hlk hK hN hsz hP hD hA hS hin ls hl
  generalize va_A (wbX9 K aM s0) sz = A at hD hA hS hN ⊢
  have hiX9 : ∀ w ∈ u_ws RX9 TX9 44, w ∈ (bw (Cond.code yX9_dayOf cX9_dayOf 7 (some .int))) := fun w h => bw_in (inlX9 w h)
  have L64_1 : ∀ (n : Nat), ∀ (n64_0 : Int32) (n64_1 : Int32) (n64_2 : Int32) (q64_M : St), fX9_dayOf_64 n n64_0 n64_1 n64_2 q64_M = some ((q_, s_)) → ∀ (H : Heap) (locs : List Loc), va_P D vwCl (wbX9 K aM q64_M) H → va_D A (wbX9 K aM q64_M) → va_S A s.heap H locs → ∀ (ls : Array Slot), lv_has ls 7 [(0, .ref (aM 0)), (3, .int n64_0), (5, .int n64_1), (6, .int n64_2)] → W p l e rmX9_dayOf s m ([.ref (aM 0), .int x1, .int x2, .int x3] : List Value).toArray below meth c H locs 0 0 (MQ below (zQ (some (.int q_)) D A (wbX9 K aM s_)) ([.ref (aM 0), .int x1, .int x2, .int x3] : List Value).toArray s 0 0 A) (F0 m 64 ls []) := by
    intro n
    induction n with
    | zero =>
      intro n64_0 n64_1 n64_2 q64_M hf
      rw [fX9_dayOf_64] at hf
      cases hf
    | succ n ih =>
      intro n64_0 n64_1 n64_2 q64_M hf H locs hP hD hS ls hl
      rw [fX9_dayOf_64] at hf
      refine lv_iload X.1 X.2.1 dX9_dayOf_64 (lv_at hl 3 rfl) ?_
      refine lv_aload_n X.1 X.2.1 dX9_dayOf_66 rfl (lv_at hl 0 rfl) ?_
      refine z_get X hK hP hiX9 0 rfl rfl 2 (by decide) (bw_in W10_12) rfl dX9_dayOf_67 ?_
      refine lv_icmp_ge (tgt := 100) X.1 X.2.1 dX9_dayOf_70 (by decide) (fun c7 => ?_) (fun c7 => ?_)
      · have hf := ite_t hf c7
        refine lv_iload_n X.1 X.2.1 dX9_dayOf_100 rfl (lv_at hl 1 rfl) ?_
        refine lv_if_ne (tgt := 109) X.1 X.2.1 dX9_dayOf_101 (by decide) (fun c8 => ?_) (fun c8 => ?_)
        · have hf := ite_f hf c8
          refine lv_aload_n X.1 X.2.1 dX9_dayOf_109 rfl (lv_at hl 0 rfl) ?_
          refine z_get X hK hP hiX9 0 rfl rfl 16 (by decide) (bw_in W19_22) rfl dX9_dayOf_110 ?_
          obtain ⟨rfl, rfl⟩ := z_inj2 hf
          exact z_iret X hr hlk hP hD hS dX9_dayOf_113
        · have hf := ite_t hf c8
          refine lv_iload X.1 X.2.1 dX9_dayOf_104 (lv_at hl 2 rfl) ?_
          refine lv_goto (tgt := 113) X.1 X.2.1 dX9_dayOf_106 (by decide) ?_
          obtain ⟨rfl, rfl⟩ := z_inj2 hf
          exact z_iret X hr hlk hP hD hS dX9_dayOf_113
      · have hf := ite_f hf c7
        refine lv_iload X.1 X.2.1 dX9_dayOf_73 (lv_at hl 2 rfl) ?_
        refine lv_aload_n X.1 X.2.1 dX9_dayOf_75 rfl (lv_at hl 0 rfl) ?_
        refine z_get X hK hP hiX9 0 rfl rfl 27 (by decide) (bw_in W7_6) rfl dX9_dayOf_76 ?_
        refine lv_iload X.1 X.2.1 dX9_dayOf_79 (lv_at hl 3 rfl) ?_
        obtain ⟨hi10, hf⟩ := chk_e hf
        obtain ⟨v9, ev9, hf⟩ := stp_e hf
        refine z_iald X hK hP 15 rfl hi10 ev9 dX9_dayOf_81 ?_
        refine lv_iconst (v := -1) X.1 X.2.1 dX9_dayOf_82 (by decide) ?_
        refine lv_icmp_eq (tgt := 90) X.1 X.2.1 dX9_dayOf_83 (by decide) (fun c11 => ?_) (fun c11 => ?_)
        · have hf := ite_t hf c11
          refine lv_iconst (v := 0) X.1 X.2.1 dX9_dayOf_90 (by decide) ?_
          refine lv_iadd X.1 X.2.1 dX9_dayOf_91 ?_
          obtain ⟨w12, ew12, hf⟩ := stp_e hf
          refine z_top ew12 ?_
          refine lv_istore (lv' := [(5, .int w12), (0, .ref (aM 0)), (3, .int n64_0), (6, .int n64_2)]) X.1 X.2.1 dX9_dayOf_92 hl (by decide) rfl (fun ls hl => ?_)
          obtain ⟨w13, ew13, hf⟩ := stp_e hf
          refine lv_iinc (v := w13) (lv' := [(6, .int w13), (5, .int w12), (0, .ref (aM 0)), (3, .int n64_0)]) X.1 X.2.1 dX9_dayOf_94 hl (k := 3) rfl (by rw [ew13]; rfl) (by decide) rfl (fun ls hl => ?_)
          refine lv_goto (tgt := 64) X.1 X.2.1 dX9_dayOf_97 (by decide) ?_
          exact ih _ _ _ _ hf _ _ hP hD hS _ (lv_sub hl [2, 3, 1, 0] rfl)
        · have hf := ite_f hf c11
          refine lv_iconst (v := 1) X.1 X.2.1 dX9_dayOf_86 (by decide) ?_
          refine lv_goto (tgt := 91) X.1 X.2.1 dX9_dayOf_87 (by decide) ?_
          refine lv_iadd X.1 X.2.1 dX9_dayOf_91 ?_
          obtain ⟨w14, ew14, hf⟩ := stp_e hf
          refine z_top ew14 ?_
          refine lv_istore (lv' := [(5, .int w14), (0, .ref (aM 0)), (3, .int n64_0), (6, .int n64_2)]) X.1 X.2.1 dX9_dayOf_92 hl (by decide) rfl (fun ls hl => ?_)
          obtain ⟨w15, ew15, hf⟩ := stp_e hf
          refine lv_iinc (v := w15) (lv' := [(6, .int w15), (5, .int w14), (0, .ref (aM 0)), (3, .int n64_0)]) X.1 X.2.1 dX9_dayOf_94 hl (k := 3) rfl (by rw [ew15]; rfl) (by decide) rfl (fun ls hl => ?_)
          refine lv_goto (tgt := 64) X.1 X.2.1 dX9_dayOf_97 (by decide) ?_
          exact ih _ _ _ _ hf _ _ hP hD hS _ (lv_sub hl [2, 3, 1, 0] rfl)
  have L15_0 : ∀ (n : Nat), ∀ (n15_0 : Int32) (n15_1 : Int32) (n15_2 : Int32) (n15_3 : Int32) (q15_M : St), fX9_dayOf_15 n n15_0 n15_1 n15_2 n15_3 q15_M = some ((q_, s_)) → ∀ (H : Heap) (locs : List Loc), va_P D vwCl (wbX9 K aM q15_M) H → va_D A (wbX9 K aM q15_M) → va_S A s.heap H locs → ∀ (ls : Array Slot), lv_has ls 7 [(0, .ref (aM 0)), (2, .int n15_0), (3, .int n15_1), (4, .int n15_2), (5, .int n15_3)] → W p l e rmX9_dayOf s m ([.ref (aM 0), .int x1, .int x2, .int x3] : List Value).toArray below meth c H locs 0 0 (MQ below (zQ (some (.int q_)) D A (wbX9 K aM s_)) ([.ref (aM 0), .int x1, .int x2, .int x3] : List Value).toArray s 0 0 A) (F0 m 15 ls []) := by
    intro n
    induction n with
    | zero =>
      intro n15_0 n15_1 n15_2 n15_3 q15_M hf
      rw [fX9_dayOf_15] at hf
      cases hf
    | succ n ih =>
      intro n15_0 n15_1 n15_2 n15_3 q15_M hf H locs hP hD hS ls hl
      rw [fX9_dayOf_15] at hf
      refine lv_iload X.1 X.2.1 dX9_dayOf_15 (lv_at hl 4 rfl) ?_
      refine lv_iload_n X.1 X.2.1 dX9_dayOf_17 rfl (lv_at hl 1 rfl) ?_
      refine lv_icmp_ge (tgt := 54) X.1 X.2.1 dX9_dayOf_18 (by decide) (fun c4 => ?_) (fun c4 => ?_)
      · have hf := ite_t hf c4
        refine lv_aload_n X.1 X.2.1 dX9_dayOf_54 rfl (lv_at hl 0 rfl) ?_
        obtain ⟨s5, hc6, hf⟩ := bd1_e hf
        refine z_V (n := 0) (As := []) (rest := []) (ci := 9) (q0 := 0) X hK hN (kX9_runs l D K aM q15_M _ s5 hc6) (bw_V W20_9 W20_10 W20_11 W1_5 W20_12) rfl ⟨rfl, rfl⟩ (by decide +kernel) rfl ⟨Nat.le_of_ble_eq_true rfl, Nat.le_of_ble_eq_true rfl⟩ hP hD rfl rfl (zj_same hD hS hA) hS hl.1 rfl (Nat.le_of_ble_eq_true rfl) dX9_dayOf_55 ⟨Nat.zero_le _, Nat.zero_le _⟩ rfl (fun H locs hP hD hS => ?_)
        refine lv_iconst (v := 0) X.1 X.2.1 dX9_dayOf_58 (by decide) ?_
        refine lv_istore (lv' := [(5, .int 0), (0, .ref (aM 0)), (2, .int n15_0), (3, .int n15_1), (4, .int n15_2)]) X.1 X.2.1 dX9_dayOf_59 hl (by decide) rfl (fun ls hl => ?_)
        refine lv_iconst (v := 0) X.1 X.2.1 dX9_dayOf_61 (by decide) ?_
        refine lv_istore (lv' := [(6, .int 0), (5, .int 0), (0, .ref (aM 0)), (2, .int n15_0), (3, .int n15_1), (4, .int n15_2)]) X.1 X.2.1 dX9_dayOf_62 hl (by decide) rfl (fun ls hl => ?_)
        exact L64_1  _ _ _ _ _ hf _ _ hP hD hS _ (lv_sub hl [2, 4, 1, 0] rfl)
      · have hf := ite_f hf c4
        refine lv_ldcw (v := 1103515245) X.1 X.2.1 X.2.2.2.1 (X.2.2.2.2 _ (bw_in W38_10)) dX9_dayOf_21 ?_
        refine lv_iload X.1 X.2.1 dX9_dayOf_24 (lv_at hl 3 rfl) ?_
        refine lv_imul X.1 X.2.1 dX9_dayOf_26 ?_
        refine lv_sipush (v := 12345) X.1 X.2.1 dX9_dayOf_27 (by decide) ?_
        refine lv_iadd X.1 X.2.1 dX9_dayOf_30 ?_
        obtain ⟨w16, ew16, hf⟩ := stp_e hf
        refine z_top ew16 ?_
        refine lv_istore (lv' := [(4, .int w16), (0, .ref (aM 0)), (2, .int n15_0), (3, .int n15_1), (5, .int n15_3)]) X.1 X.2.1 dX9_dayOf_31 hl (by decide) rfl (fun ls hl => ?_)
        refine lv_aload_n X.1 X.2.1 dX9_dayOf_33 rfl (lv_at hl 1 rfl) ?_
        refine z_get X hK hP hiX9 0 rfl rfl 14 (by decide) (bw_in W7_0) rfl dX9_dayOf_34 ?_
        refine lv_iload X.1 X.2.1 dX9_dayOf_37 (lv_at hl 4 rfl) ?_
        refine lv_iload X.1 X.2.1 dX9_dayOf_39 (lv_at hl 0 rfl) ?_
        refine lv_bipush (v := 16) X.1 X.2.1 dX9_dayOf_41 (by decide) ?_
        refine lv_iushr X.1 X.2.1 dX9_dayOf_43 rfl ?_
        refine lv_bipush (v := 10) X.1 X.2.1 dX9_dayOf_44 (by decide) ?_
        refine lv_irem X.1 X.2.1 dX9_dayOf_46 (by decide) ?_
        obtain ⟨hi17, hf⟩ := chk_e hf
        obtain ⟨s18, es18, hf⟩ := stp_e hf
        refine z_iast (ws' := wbX9 K aM s18) X hK hP hD hS 9 rfl hi17 dX9_dayOf_47 (by rw [es18]; rfl) (fun H locs hP hD hS => ?_)
        obtain ⟨w19, ew19, hf⟩ := stp_e hf
        refine lv_iinc (v := w19) (lv' := [(5, .int w19), (4, .int w16), (0, .ref (aM 0)), (2, .int n15_0), (3, .int n15_1)]) X.1 X.2.1 dX9_dayOf_48 hl (k := 4) rfl (by rw [ew19]; rfl) (by decide) rfl (fun ls hl => ?_)
        refine lv_goto (tgt := 15) X.1 X.2.1 dX9_dayOf_51 (by decide) ?_
        exact ih _ _ _ _ _ hf _ _ hP hD hS _ (lv_sub hl [2, 3, 4, 1, 0] rfl)
  rw [fX9_dayOf] at hf
  refine lv_aload_n X.1 X.2.1 dX9_dayOf_0 rfl (lv_at hl 0 rfl) ?_
  obtain ⟨s1, hc2, hf⟩ := bd1_e hf
  refine z_V (n := 0) (As := []) (rest := []) (ci := 9) (q0 := 0) X hK hN (kX9_asTold l D K aM s0 _ s1 hc2) (bw_V W20_3 W20_4 W20_5 W1_5 W20_6) rfl ⟨rfl, rfl⟩ (by decide +kernel) rfl ⟨Nat.le_of_ble_eq_true rfl, Nat.le_of_ble_eq_true rfl⟩ hP hD rfl rfl (zj_same hD hS hA) hS hl.1 rfl (Nat.le_of_ble_eq_true rfl) dX9_dayOf_1 ⟨Nat.zero_le _, Nat.zero_le _⟩ rfl (fun H locs hP hD hS => ?_)
  refine lv_iload_n X.1 X.2.1 dX9_dayOf_4 rfl (lv_at hl 1 rfl) ?_
  refine lv_istore (lv' := [(4, .int x1), (0, .ref (aM 0)), (1, .int x1), (2, .int x2), (3, .int x3)]) X.1 X.2.1 dX9_dayOf_5 hl (by decide) rfl (fun ls hl => ?_)
  refine lv_aload_n X.1 X.2.1 dX9_dayOf_7 rfl (lv_at hl 1 rfl) ?_
  refine lv_iload_n X.1 X.2.1 dX9_dayOf_8 rfl (lv_at hl 3 rfl) ?_
  obtain ⟨s3, es3, hf⟩ := stp_e hf
  refine z_put (ws' := wbX9 K aM s3) X hK hP hD hS hiX9 tyX9_ok nmX9 0 rfl rfl 13 (by decide) (bw_in W20_7) rfl rfl rfl (Nat.le_of_ble_eq_true rfl) dX9_dayOf_9 (by rw [es3]; rfl) (fun H locs hP hD hS => ?_)
  refine lv_iconst (v := 0) X.1 X.2.1 dX9_dayOf_12 (by decide) ?_
  refine lv_istore (lv' := [(5, .int 0), (4, .int x1), (0, .ref (aM 0)), (1, .int x1), (2, .int x2), (3, .int x3)]) X.1 X.2.1 dX9_dayOf_13 hl (by decide) rfl (fun ls hl => ?_)
  exact L15_0  _ _ _ _ _ _ hf _ _ hP hD hS _ (lv_sub hl [2, 4, 5, 1, 0] rfl)
abbrev rmX9_day : Room := { frames := 8, cells := 0, slots := 0, locals := 189 }
set_option maxHeartbeats 4000000 in
set_option maxRecDepth 100000 in
theorem kX9_day (l : Launch) (D : va_G) (K : Nat → ClassId) (aM : Nat → Nat) (s0 : St) (sz : Nat) (x1 : Int32) (x2 : Int32) (x3 : Int32) (q_ : Int32) (s_ : St) (hf : fX9_day s0 x1 x2 x3 = some (q_, s_)) : Met l yX9_day (bw (Cond.code yX9_day cX9_day 4 (some .int))) rmX9_day (va_Pc [.ref (aM 0), .int x1, .int x2, .int x3] (zB D K sz (wbX9 K aM s0))) (zQ (some (.int q_)) D (va_A (wbX9 K aM s0) sz) (wbX9 K aM s_)) 0 0 (va_A (wbX9 K aM s0) sz) := by
  refine z_of (cc := cX9_day) (maxL := 4) (ret := (some .int)) (own := RX9) (lv := [(0, .ref (aM 0)), (1, .int x1), (2, .int x2), (3, .int x3)]) (by decide) rfl rfl (Nat.le_of_ble_eq_true rfl) rfl ?_
  intro p e s m below meth c X hr hlk hK hN hsz hP hD hA hS hin ls hl
  generalize va_A (wbX9 K aM s0) sz = A at hD hA hS hN ⊢
  rw [fX9_day] at hf
  refine lv_iload_n X.1 X.2.1 dX9_day_0 rfl (lv_at hl 2 rfl) ?_
  refine lv_iconst (v := 1) X.1 X.2.1 dX9_day_1 (by decide) ?_
  refine lv_bipush (v := 20) X.1 X.2.1 dX9_day_2 (by decide) ?_
  obtain ⟨r1, hc2, hf⟩ := bd1_e hf
  refine z_S (n := 3) (As := [.int x2, .int 1, .int 20]) (rest := []) X hK hN (kX9_in l D K _ x2 1 20 r1 hc2) (bw_S W8_17 W8_18 W1_5 W8_19) rfl ⟨rfl, rfl⟩ (by decide +kernel) rfl ⟨Nat.le_of_ble_eq_true rfl, Nat.le_of_ble_eq_true rfl⟩ (fun _ _ h => by simp at h) ⟨fun _ _ _ _ h => by simp at h, fun _ _ h => by simp at h⟩ (zj_none hP hD hS hA) hS hl.1 rfl (Nat.le_of_ble_eq_true rfl) dX9_day_4 ⟨Nat.zero_le _, Nat.zero_le _⟩ rfl (fun H locs hP hD hS => ?_)
  refine lv_if_eq (tgt := 29) X.1 X.2.1 dX9_day_7 (by decide) (fun c3 => ?_) (fun c3 => ?_)
  · have hf := ite_t hf c3
    refine lv_bipush (v := -2) X.1 X.2.1 dX9_day_29 (by decide) ?_
    obtain ⟨rfl, rfl⟩ := z_inj2 hf
    exact z_iret X hr hlk hP hD hS dX9_day_31
  · have hf := ite_f hf c3
    refine lv_iload_n X.1 X.2.1 dX9_day_10 rfl (lv_at hl 3 rfl) ?_
    refine lv_iconst (v := 0) X.1 X.2.1 dX9_day_11 (by decide) ?_
    refine lv_iconst (v := 1) X.1 X.2.1 dX9_day_12 (by decide) ?_
    obtain ⟨r4, hc5, hf⟩ := bd1_e hf
    refine z_S (n := 3) (As := [.int x3, .int 0, .int 1]) (rest := []) X hK hN (kX9_in l D K _ x3 0 1 r4 hc5) (bw_S W8_17 W8_18 W1_5 W8_19) rfl ⟨rfl, rfl⟩ (by decide +kernel) rfl ⟨Nat.le_of_ble_eq_true rfl, Nat.le_of_ble_eq_true rfl⟩ (fun _ _ h => by simp at h) ⟨fun _ _ _ _ h => by simp at h, fun _ _ h => by simp at h⟩ (zj_none hP hD hS hA) hS hl.1 rfl (Nat.le_of_ble_eq_true rfl) dX9_day_13 ⟨Nat.zero_le _, Nat.zero_le _⟩ rfl (fun H locs hP hD hS => ?_)
    refine lv_if_eq (tgt := 29) X.1 X.2.1 dX9_day_16 (by decide) (fun c6 => ?_) (fun c6 => ?_)
    · have hf := ite_t hf c6
      refine lv_bipush (v := -2) X.1 X.2.1 dX9_day_29 (by decide) ?_
      obtain ⟨rfl, rfl⟩ := z_inj2 hf
      exact z_iret X hr hlk hP hD hS dX9_day_31
    · have hf := ite_f hf c6
      refine lv_aload_n X.1 X.2.1 dX9_day_19 rfl (lv_at hl 0 rfl) ?_
      refine lv_iload_n X.1 X.2.1 dX9_day_20 rfl (lv_at hl 1 rfl) ?_
      refine lv_iload_n X.1 X.2.1 dX9_day_21 rfl (lv_at hl 2 rfl) ?_
      refine lv_iload_n X.1 X.2.1 dX9_day_22 rfl (lv_at hl 3 rfl) ?_
      obtain ⟨r7, s8, hc9, hf⟩ := bd2_e hf
      refine z_V (n := 3) (As := [.int x1, .int x2, .int x3]) (rest := []) (ci := 9) (q0 := 0) X hK hN (kX9_dayOf l D K aM s0 _ x1 x2 x3 r7 s8 hc9) (bw_V W38_6 W38_7 W38_8 W1_5 W38_9) rfl ⟨rfl, rfl⟩ (by decide +kernel) rfl ⟨Nat.le_of_ble_eq_true rfl, Nat.le_of_ble_eq_true rfl⟩ hP hD rfl rfl (zj_same hD hS hA) hS hl.1 rfl (Nat.le_of_ble_eq_true rfl) dX9_day_23 ⟨Nat.zero_le _, Nat.zero_le _⟩ rfl (fun H locs hP hD hS => ?_)
      refine lv_goto (tgt := 31) X.1 X.2.1 dX9_day_26 (by decide) ?_
      obtain ⟨rfl, rfl⟩ := z_inj2 hf
      exact z_iret X hr hlk hP hD hS dX9_day_31
abbrev rmX9_liftOf : Room := { frames := 8, cells := 0, slots := 0, locals := 183 }
set_option maxHeartbeats 4000000 in
set_option maxRecDepth 100000 in
theorem kX9_liftOf (l : Launch) (D : va_G) (K : Nat → ClassId) (aM : Nat → Nat) (s0 : St) (sz : Nat) (x1 : Int32) (x2 : Int32) (q_ : Int32) (s_ : St) (hf : fX9_liftOf s0 x1 x2 = some (q_, s_)) : Met l yX9_liftOf (bw (Cond.code yX9_liftOf cX9_liftOf 4 (some .int))) rmX9_liftOf (va_Pc [.ref (aM 0), .int x1, .int x2] (zB D K sz (wbX9 K aM s0))) (zQ (some (.int q_)) D (va_A (wbX9 K aM s0) sz) (wbX9 K aM s_)) 0 0 (va_A (wbX9 K aM s0) sz) := by
  refine z_of (cc := cX9_liftOf) (maxL := 4) (ret := (some .int)) (own := RX9) (lv := [(0, .ref (aM 0)), (1, .int x1), (2, .int x2)]) (by decide) rfl rfl (Nat.le_of_ble_eq_true rfl) rfl ?_
  intro p e s m below meth c X hr hlk hK hN hsz hP hD hA hS hin ls hl
  generalize va_A (wbX9 K aM s0) sz = A at hD hA hS hN ⊢
  have hiX9 : ∀ w ∈ u_ws RX9 TX9 44, w ∈ (bw (Cond.code yX9_liftOf cX9_liftOf 4 (some .int))) := fun w h => bw_in (inlX9 w h)
  rw [fX9_liftOf] at hf
  refine lv_aload_n X.1 X.2.1 dX9_liftOf_0 rfl (lv_at hl 0 rfl) ?_
  obtain ⟨s1, hc2, hf⟩ := bd1_e hf
  refine z_V (n := 0) (As := []) (rest := []) (ci := 9) (q0 := 0) X hK hN (kX9_runsTold l D K aM s0 _ s1 hc2) (bw_V W19_23 W20_0 W20_1 W1_5 W20_2) rfl ⟨rfl, rfl⟩ (by decide +kernel) rfl ⟨Nat.le_of_ble_eq_true rfl, Nat.le_of_ble_eq_true rfl⟩ hP hD rfl rfl (zj_same hD hS hA) hS hl.1 rfl (Nat.le_of_ble_eq_true rfl) dX9_liftOf_1 ⟨Nat.zero_le _, Nat.zero_le _⟩ rfl (fun H locs hP hD hS => ?_)
  refine lv_iload_n X.1 X.2.1 dX9_liftOf_4 rfl (lv_at hl 1 rfl) ?_
  refine lv_aload_n X.1 X.2.1 dX9_liftOf_5 rfl (lv_at hl 0 rfl) ?_
  refine z_get X hK hP hiX9 0 rfl rfl 16 (by decide) (bw_in W19_22) rfl dX9_liftOf_6 ?_
  refine lv_icmp_ge (tgt := 16) X.1 X.2.1 dX9_liftOf_9 (by decide) (fun c3 => ?_) (fun c3 => ?_)
  · have hf := ite_t hf c3
    refine lv_aload_n X.1 X.2.1 dX9_liftOf_16 rfl (lv_at hl 0 rfl) ?_
    refine z_get X hK hP hiX9 0 rfl rfl 16 (by decide) (bw_in W19_22) rfl dX9_liftOf_17 ?_
    obtain ⟨w4, ew4, hf⟩ := stp_e hf
    refine z_top ew4 ?_
    refine lv_istore_n (lv' := [(3, .int w4), (0, .ref (aM 0)), (1, .int x1), (2, .int x2)]) X.1 X.2.1 dX9_liftOf_20 rfl hl (by decide) rfl (fun ls hl => ?_)
    refine lv_iload_n X.1 X.2.1 dX9_liftOf_21 rfl (lv_at hl 3 rfl) ?_
    refine lv_if_ne (tgt := 34) X.1 X.2.1 dX9_liftOf_22 (by decide) (fun c5 => ?_) (fun c5 => ?_)
    · have hf := ite_f hf c5
      refine lv_iload_n X.1 X.2.1 dX9_liftOf_34 rfl (lv_at hl 3 rfl) ?_
      refine lv_iconst (v := 1) X.1 X.2.1 dX9_liftOf_35 (by decide) ?_
      refine lv_icmp_ne (tgt := 48) X.1 X.2.1 dX9_liftOf_36 (by decide) (fun c6 => ?_) (fun c6 => ?_)
      · have hf := ite_f hf c6
        refine lv_iload_n X.1 X.2.1 dX9_liftOf_48 rfl (lv_at hl 3 rfl) ?_
        refine lv_iconst (v := 2) X.1 X.2.1 dX9_liftOf_49 (by decide) ?_
        refine lv_icmp_ne (tgt := 62) X.1 X.2.1 dX9_liftOf_50 (by decide) (fun c7 => ?_) (fun c7 => ?_)
        · have hf := ite_f hf c7
          refine lv_aload_n X.1 X.2.1 dX9_liftOf_62 rfl (lv_at hl 1 rfl) ?_
          refine z_get X hK hP hiX9 0 rfl rfl 25 (by decide) (bw_in W7_4) rfl dX9_liftOf_63 ?_
          refine lv_iload_n X.1 X.2.1 dX9_liftOf_66 rfl (lv_at hl 0 rfl) ?_
          obtain ⟨hi9, hf⟩ := chk_e hf
          obtain ⟨v8, ev8, hf⟩ := stp_e hf
          refine z_iald X hK hP 13 rfl hi9 ev8 dX9_liftOf_67 ?_
          obtain ⟨rfl, rfl⟩ := z_inj2 hf
          exact z_iret X hr hlk hP hD hS dX9_liftOf_68
        · have hf := ite_t hf c7
          refine lv_aload_n X.1 X.2.1 dX9_liftOf_53 rfl (lv_at hl 1 rfl) ?_
          refine z_get X hK hP hiX9 0 rfl rfl 24 (by decide) (bw_in W7_3) rfl dX9_liftOf_54 ?_
          refine lv_iload_n X.1 X.2.1 dX9_liftOf_57 rfl (lv_at hl 0 rfl) ?_
          obtain ⟨hi11, hf⟩ := chk_e hf
          obtain ⟨v10, ev10, hf⟩ := stp_e hf
          refine z_iald X hK hP 12 rfl hi11 ev10 dX9_liftOf_58 ?_
          refine lv_goto (tgt := 68) X.1 X.2.1 dX9_liftOf_59 (by decide) ?_
          obtain ⟨rfl, rfl⟩ := z_inj2 hf
          exact z_iret X hr hlk hP hD hS dX9_liftOf_68
      · have hf := ite_t hf c6
        refine lv_aload_n X.1 X.2.1 dX9_liftOf_39 rfl (lv_at hl 1 rfl) ?_
        refine z_get X hK hP hiX9 0 rfl rfl 23 (by decide) (bw_in W7_2) rfl dX9_liftOf_40 ?_
        refine lv_iload_n X.1 X.2.1 dX9_liftOf_43 rfl (lv_at hl 0 rfl) ?_
        obtain ⟨hi13, hf⟩ := chk_e hf
        obtain ⟨v12, ev12, hf⟩ := stp_e hf
        refine z_iald X hK hP 11 rfl hi13 ev12 dX9_liftOf_44 ?_
        refine lv_goto (tgt := 68) X.1 X.2.1 dX9_liftOf_45 (by decide) ?_
        obtain ⟨rfl, rfl⟩ := z_inj2 hf
        exact z_iret X hr hlk hP hD hS dX9_liftOf_68
    · have hf := ite_t hf c5
      refine lv_aload_n X.1 X.2.1 dX9_liftOf_25 rfl (lv_at hl 1 rfl) ?_
      refine z_get X hK hP hiX9 0 rfl rfl 22 (by decide) (bw_in W7_1) rfl dX9_liftOf_26 ?_
      refine lv_iload_n X.1 X.2.1 dX9_liftOf_29 rfl (lv_at hl 0 rfl) ?_
      obtain ⟨hi15, hf⟩ := chk_e hf
      obtain ⟨v14, ev14, hf⟩ := stp_e hf
      refine z_iald X hK hP 10 rfl hi15 ev14 dX9_liftOf_30 ?_
      refine lv_goto (tgt := 68) X.1 X.2.1 dX9_liftOf_31 (by decide) ?_
      obtain ⟨rfl, rfl⟩ := z_inj2 hf
      exact z_iret X hr hlk hP hD hS dX9_liftOf_68
  · have hf := ite_f hf c3
    refine lv_iload_n X.1 X.2.1 dX9_liftOf_12 rfl (lv_at hl 1 rfl) ?_
    refine lv_goto (tgt := 20) X.1 X.2.1 dX9_liftOf_13 (by decide) ?_
    refine lv_istore_n (lv' := [(3, .int x1), (0, .ref (aM 0)), (1, .int x1), (2, .int x2)]) X.1 X.2.1 dX9_liftOf_20 rfl hl (by decide) rfl (fun ls hl => ?_)
    refine lv_iload_n X.1 X.2.1 dX9_liftOf_21 rfl (lv_at hl 3 rfl) ?_
    refine lv_if_ne (tgt := 34) X.1 X.2.1 dX9_liftOf_22 (by decide) (fun c16 => ?_) (fun c16 => ?_)
    · have hf := ite_f hf c16
      refine lv_iload_n X.1 X.2.1 dX9_liftOf_34 rfl (lv_at hl 3 rfl) ?_
      refine lv_iconst (v := 1) X.1 X.2.1 dX9_liftOf_35 (by decide) ?_
      refine lv_icmp_ne (tgt := 48) X.1 X.2.1 dX9_liftOf_36 (by decide) (fun c17 => ?_) (fun c17 => ?_)
      · have hf := ite_f hf c17
        refine lv_iload_n X.1 X.2.1 dX9_liftOf_48 rfl (lv_at hl 3 rfl) ?_
        refine lv_iconst (v := 2) X.1 X.2.1 dX9_liftOf_49 (by decide) ?_
        refine lv_icmp_ne (tgt := 62) X.1 X.2.1 dX9_liftOf_50 (by decide) (fun c18 => ?_) (fun c18 => ?_)
        · have hf := ite_f hf c18
          refine lv_aload_n X.1 X.2.1 dX9_liftOf_62 rfl (lv_at hl 1 rfl) ?_
          refine z_get X hK hP hiX9 0 rfl rfl 25 (by decide) (bw_in W7_4) rfl dX9_liftOf_63 ?_
          refine lv_iload_n X.1 X.2.1 dX9_liftOf_66 rfl (lv_at hl 0 rfl) ?_
          obtain ⟨hi20, hf⟩ := chk_e hf
          obtain ⟨v19, ev19, hf⟩ := stp_e hf
          refine z_iald X hK hP 13 rfl hi20 ev19 dX9_liftOf_67 ?_
          obtain ⟨rfl, rfl⟩ := z_inj2 hf
          exact z_iret X hr hlk hP hD hS dX9_liftOf_68
        · have hf := ite_t hf c18
          refine lv_aload_n X.1 X.2.1 dX9_liftOf_53 rfl (lv_at hl 1 rfl) ?_
          refine z_get X hK hP hiX9 0 rfl rfl 24 (by decide) (bw_in W7_3) rfl dX9_liftOf_54 ?_
          refine lv_iload_n X.1 X.2.1 dX9_liftOf_57 rfl (lv_at hl 0 rfl) ?_
          obtain ⟨hi22, hf⟩ := chk_e hf
          obtain ⟨v21, ev21, hf⟩ := stp_e hf
          refine z_iald X hK hP 12 rfl hi22 ev21 dX9_liftOf_58 ?_
          refine lv_goto (tgt := 68) X.1 X.2.1 dX9_liftOf_59 (by decide) ?_
          obtain ⟨rfl, rfl⟩ := z_inj2 hf
          exact z_iret X hr hlk hP hD hS dX9_liftOf_68
      · have hf := ite_t hf c17
        refine lv_aload_n X.1 X.2.1 dX9_liftOf_39 rfl (lv_at hl 1 rfl) ?_
        refine z_get X hK hP hiX9 0 rfl rfl 23 (by decide) (bw_in W7_2) rfl dX9_liftOf_40 ?_
        refine lv_iload_n X.1 X.2.1 dX9_liftOf_43 rfl (lv_at hl 0 rfl) ?_
        obtain ⟨hi24, hf⟩ := chk_e hf
        obtain ⟨v23, ev23, hf⟩ := stp_e hf
        refine z_iald X hK hP 11 rfl hi24 ev23 dX9_liftOf_44 ?_
        refine lv_goto (tgt := 68) X.1 X.2.1 dX9_liftOf_45 (by decide) ?_
        obtain ⟨rfl, rfl⟩ := z_inj2 hf
        exact z_iret X hr hlk hP hD hS dX9_liftOf_68
    · have hf := ite_t hf c16
      refine lv_aload_n X.1 X.2.1 dX9_liftOf_25 rfl (lv_at hl 1 rfl) ?_
      refine z_get X hK hP hiX9 0 rfl rfl 22 (by decide) (bw_in W7_1) rfl dX9_liftOf_26 ?_
      refine lv_iload_n X.1 X.2.1 dX9_liftOf_29 rfl (lv_at hl 0 rfl) ?_
      obtain ⟨hi26, hf⟩ := chk_e hf
      obtain ⟨v25, ev25, hf⟩ := stp_e hf
      refine z_iald X hK hP 10 rfl hi26 ev25 dX9_liftOf_30 ?_
      refine lv_goto (tgt := 68) X.1 X.2.1 dX9_liftOf_31 (by decide) ?_
      obtain ⟨rfl, rfl⟩ := z_inj2 hf
      exact z_iret X hr hlk hP hD hS dX9_liftOf_68
abbrev rmX9_stepsDigest : Room := { frames := 9, cells := 0, slots := 0, locals := 206 }
set_option maxHeartbeats 4000000 in
set_option maxRecDepth 100000 in
theorem kX9_stepsDigest (l : Launch) (D : va_G) (K : Nat → ClassId) (aM : Nat → Nat) (s0 : St) (sz : Nat) (x1 : Int64) (x2 : Int32) (q_ : Int64) (s_ : St) (hf : fX9_stepsDigest s0 x1 x2 = some (q_, s_)) : Met l yX9_stepsDigest (bw (Cond.code yX9_stepsDigest cX9_stepsDigest 7 (some .long))) rmX9_stepsDigest (va_Pc [.ref (aM 0), .long x1, .int x2] (zB D K sz (wbX9 K aM s0))) (zQ (some (.long q_)) D (va_A (wbX9 K aM s0) sz) (wbX9 K aM s_)) 0 0 (va_A (wbX9 K aM s0) sz) := by
  refine z_of (cc := cX9_stepsDigest) (maxL := 7) (ret := (some .long)) (own := RX9) (lv := [(0, .ref (aM 0)), (1, .long x1), (3, .int x2)]) (by decide) rfl rfl (Nat.le_of_ble_eq_true rfl) rfl ?_
  intro p e s m below meth c X hr hlk hK hN hsz hP hD hA hS hin ls hl
  generalize va_A (wbX9 K aM s0) sz = A at hD hA hS hN ⊢
  have L6_0 : ∀ (n : Nat), ∀ (n6_0 : Int32) (n6_1 : Int64) (n6_2 : Int32) (q6_M : St), fX9_stepsDigest_6 n n6_0 n6_1 n6_2 q6_M = some ((q_, s_)) → ∀ (H : Heap) (locs : List Loc), va_P D vwCl (wbX9 K aM q6_M) H → va_D A (wbX9 K aM q6_M) → va_S A s.heap H locs → ∀ (ls : Array Slot), lv_has ls 7 [(0, .ref (aM 0)), (3, .int n6_0), (4, .long n6_1), (6, .int n6_2)] → W p l e rmX9_stepsDigest s m ([.ref (aM 0), .long x1, .int x2] : List Value).toArray below meth c H locs 0 0 (MQ below (zQ (some (.long q_)) D A (wbX9 K aM s_)) ([.ref (aM 0), .long x1, .int x2] : List Value).toArray s 0 0 A) (F0 m 6 ls []) := by
    intro n
    induction n with
    | zero =>
      intro n6_0 n6_1 n6_2 q6_M hf
      rw [fX9_stepsDigest_6] at hf
      cases hf
    | succ n ih =>
      intro n6_0 n6_1 n6_2 q6_M hf H locs hP hD hS ls hl
      rw [fX9_stepsDigest_6] at hf
      refine lv_iload X.1 X.2.1 dX9_stepsDigest_6 (lv_at hl 3 rfl) ?_
      refine lv_iconst (v := 4) X.1 X.2.1 dX9_stepsDigest_8 (by decide) ?_
      refine lv_icmp_ge (tgt := 35) X.1 X.2.1 dX9_stepsDigest_9 (by decide) (fun c1 => ?_) (fun c1 => ?_)
      · have hf := ite_t hf c1
        refine lv_ldc2 (v := 31) X.1 X.2.1 X.2.2.2.1 (X.2.2.2.2 _ (bw_in W44_13)) dX9_stepsDigest_35 ?_
        refine lv_lload X.1 X.2.1 dX9_stepsDigest_38 (lv_at hl 2 rfl) ?_
        refine lv_lmul X.1 X.2.1 dX9_stepsDigest_40 ?_
        refine lv_aload_n X.1 X.2.1 dX9_stepsDigest_41 rfl (lv_at hl 0 rfl) ?_
        refine lv_iload_n X.1 X.2.1 dX9_stepsDigest_42 rfl (lv_at hl 1 rfl) ?_
        obtain ⟨r2, s3, hc4, hf⟩ := bd2_e hf
        refine z_V (n := 1) (As := [.int n6_0]) (rest := [.long ((31 : Int64) * n6_1)]) (ci := 9) (q0 := 0) X hK hN (kX9_arrivedOf l D K aM q6_M _ n6_0 r2 s3 hc4) (bw_V W25_5 W25_6 W25_7 W1_5 W25_8) rfl ⟨rfl, rfl⟩ (by decide +kernel) rfl ⟨Nat.le_of_ble_eq_true rfl, Nat.le_of_ble_eq_true rfl⟩ hP hD rfl rfl (zj_same hD hS hA) hS hl.1 rfl (Nat.le_of_ble_eq_true rfl) dX9_stepsDigest_43 ⟨Nat.zero_le _, Nat.zero_le _⟩ rfl (fun H locs hP hD hS => ?_)
        refine lv_i2l X.1 X.2.1 dX9_stepsDigest_46 rfl ?_
        refine lv_ladd X.1 X.2.1 dX9_stepsDigest_47 ?_
        obtain ⟨rfl, rfl⟩ := z_inj2 hf
        exact z_lret X hr hlk hP hD hS dX9_stepsDigest_48
      · have hf := ite_f hf c1
        refine lv_ldc2 (v := 31) X.1 X.2.1 X.2.2.2.1 (X.2.2.2.2 _ (bw_in W44_13)) dX9_stepsDigest_12 ?_
        refine lv_lload X.1 X.2.1 dX9_stepsDigest_15 (lv_at hl 2 rfl) ?_
        refine lv_lmul X.1 X.2.1 dX9_stepsDigest_17 ?_
        refine lv_aload_n X.1 X.2.1 dX9_stepsDigest_18 rfl (lv_at hl 0 rfl) ?_
        refine lv_iload_n X.1 X.2.1 dX9_stepsDigest_19 rfl (lv_at hl 1 rfl) ?_
        refine lv_iload X.1 X.2.1 dX9_stepsDigest_20 (lv_at hl 3 rfl) ?_
        obtain ⟨r5, s6, hc7, hf⟩ := bd2_e hf
        refine z_V (n := 2) (As := [.int n6_0, .int n6_2]) (rest := [.long ((31 : Int64) * n6_1)]) (ci := 9) (q0 := 0) X hK hN (kX9_liftOf l D K aM q6_M _ n6_0 n6_2 r5 s6 hc7) (bw_V W19_18 W19_19 W19_20 W1_5 W19_21) rfl ⟨rfl, rfl⟩ (by decide +kernel) rfl ⟨Nat.le_of_ble_eq_true rfl, Nat.le_of_ble_eq_true rfl⟩ hP hD rfl rfl (zj_same hD hS hA) hS hl.1 rfl (Nat.le_of_ble_eq_true rfl) dX9_stepsDigest_22 ⟨Nat.zero_le _, Nat.zero_le _⟩ rfl (fun H locs hP hD hS => ?_)
        refine lv_i2l X.1 X.2.1 dX9_stepsDigest_25 rfl ?_
        refine lv_ladd X.1 X.2.1 dX9_stepsDigest_26 ?_
        obtain ⟨w8, ew8, hf⟩ := stp_e hf
        refine z_topl ew8 ?_
        refine lv_lstore (lv' := [(4, .long w8), (0, .ref (aM 0)), (3, .int n6_0), (6, .int n6_2)]) X.1 X.2.1 dX9_stepsDigest_27 hl (by decide) rfl (fun ls hl => ?_)
        obtain ⟨w9, ew9, hf⟩ := stp_e hf
        refine lv_iinc (v := w9) (lv' := [(6, .int w9), (4, .long w8), (0, .ref (aM 0)), (3, .int n6_0)]) X.1 X.2.1 dX9_stepsDigest_29 hl (k := 3) rfl (by rw [ew9]; rfl) (by decide) rfl (fun ls hl => ?_)
        refine lv_goto (tgt := 6) X.1 X.2.1 dX9_stepsDigest_32 (by decide) ?_
        exact ih _ _ _ _ hf _ _ hP hD hS _ (lv_sub hl [2, 3, 1, 0] rfl)
  rw [fX9_stepsDigest] at hf
  refine lv_lload_n X.1 X.2.1 dX9_stepsDigest_0 rfl (lv_at hl 1 rfl) ?_
  refine lv_lstore (lv' := [(4, .long x1), (0, .ref (aM 0)), (1, .long x1), (3, .int x2)]) X.1 X.2.1 dX9_stepsDigest_1 hl (by decide) rfl (fun ls hl => ?_)
  refine lv_iconst (v := 0) X.1 X.2.1 dX9_stepsDigest_3 (by decide) ?_
  refine lv_istore (lv' := [(6, .int 0), (4, .long x1), (0, .ref (aM 0)), (1, .long x1), (3, .int x2)]) X.1 X.2.1 dX9_stepsDigest_4 hl (by decide) rfl (fun ls hl => ?_)
  exact L6_0  _ _ _ _ _ hf _ _ hP hD hS _ (lv_sub hl [2, 4, 1, 0] rfl)
abbrev rmX9_endsNow : Room := { frames := 8, cells := 0, slots := 0, locals := 183 }
set_option maxHeartbeats 4000000 in
set_option maxRecDepth 100000 in
theorem kX9_endsNow (l : Launch) (D : va_G) (K : Nat → ClassId) (aM : Nat → Nat) (s0 : St) (sz : Nat)  (q_ : Int32) (s_ : St) (hf : fX9_endsNow s0 = some (q_, s_)) : Met l yX9_endsNow (bw (Cond.code yX9_endsNow cX9_endsNow 1 (some .int))) rmX9_endsNow (va_Pc [.ref (aM 0)] (zB D K sz (wbX9 K aM s0))) (zQ (some (.int q_)) D (va_A (wbX9 K aM s0) sz) (wbX9 K aM s_)) 0 0 (va_A (wbX9 K aM s0) sz) := by
  refine z_of (cc := cX9_endsNow) (maxL := 1) (ret := (some .int)) (own := RX9) (lv := [(0, .ref (aM 0))]) (by decide) rfl rfl (Nat.le_of_ble_eq_true rfl) rfl ?_
  intro p e s m below meth c X hr hlk hK hN hsz hP hD hA hS hin ls hl
  generalize va_A (wbX9 K aM s0) sz = A at hD hA hS hN ⊢
  have hiX9 : ∀ w ∈ u_ws RX9 TX9 44, w ∈ (bw (Cond.code yX9_endsNow cX9_endsNow 1 (some .int))) := fun w h => bw_in (inlX9 w h)
  rw [fX9_endsNow] at hf
  refine lv_aload_n X.1 X.2.1 dX9_endsNow_0 rfl (lv_at hl 0 rfl) ?_
  obtain ⟨s1, hc2, hf⟩ := bd1_e hf
  refine z_V (n := 0) (As := []) (rest := []) (ci := 9) (q0 := 0) X hK hN (kX9_runsTold l D K aM s0 _ s1 hc2) (bw_V W19_23 W20_0 W20_1 W1_5 W20_2) rfl ⟨rfl, rfl⟩ (by decide +kernel) rfl ⟨Nat.le_of_ble_eq_true rfl, Nat.le_of_ble_eq_true rfl⟩ hP hD rfl rfl (zj_same hD hS hA) hS hl.1 rfl (Nat.le_of_ble_eq_true rfl) dX9_endsNow_1 ⟨Nat.zero_le _, Nat.zero_le _⟩ rfl (fun H locs hP hD hS => ?_)
  refine lv_aload_n X.1 X.2.1 dX9_endsNow_4 rfl (lv_at hl 0 rfl) ?_
  refine z_get X hK hP hiX9 0 rfl rfl 16 (by decide) (bw_in W19_22) rfl dX9_endsNow_5 ?_
  obtain ⟨rfl, rfl⟩ := z_inj2 hf
  exact z_iret X hr hlk hP hD hS dX9_endsNow_8
abbrev rmX9_fullOf : Room := { frames := 8, cells := 0, slots := 0, locals := 183 }
set_option maxHeartbeats 4000000 in
set_option maxRecDepth 100000 in
theorem kX9_fullOf (l : Launch) (D : va_G) (K : Nat → ClassId) (aM : Nat → Nat) (s0 : St) (sz : Nat) (x1 : Int32) (q_ : Int32) (s_ : St) (hf : fX9_fullOf s0 x1 = some (q_, s_)) : Met l yX9_fullOf (bw (Cond.code yX9_fullOf cX9_fullOf 2 (some .int))) rmX9_fullOf (va_Pc [.ref (aM 0), .int x1] (zB D K sz (wbX9 K aM s0))) (zQ (some (.int q_)) D (va_A (wbX9 K aM s0) sz) (wbX9 K aM s_)) 0 0 (va_A (wbX9 K aM s0) sz) := by
  refine z_of (cc := cX9_fullOf) (maxL := 2) (ret := (some .int)) (own := RX9) (lv := [(0, .ref (aM 0)), (1, .int x1)]) (by decide) rfl rfl (Nat.le_of_ble_eq_true rfl) rfl ?_
  intro p e s m below meth c X hr hlk hK hN hsz hP hD hA hS hin ls hl
  generalize va_A (wbX9 K aM s0) sz = A at hD hA hS hN ⊢
  have hiX9 : ∀ w ∈ u_ws RX9 TX9 44, w ∈ (bw (Cond.code yX9_fullOf cX9_fullOf 2 (some .int))) := fun w h => bw_in (inlX9 w h)
  rw [fX9_fullOf] at hf
  refine lv_aload_n X.1 X.2.1 dX9_fullOf_0 rfl (lv_at hl 0 rfl) ?_
  obtain ⟨s1, hc2, hf⟩ := bd1_e hf
  refine z_V (n := 0) (As := []) (rest := []) (ci := 9) (q0 := 0) X hK hN (kX9_runsTold l D K aM s0 _ s1 hc2) (bw_V W19_23 W20_0 W20_1 W1_5 W20_2) rfl ⟨rfl, rfl⟩ (by decide +kernel) rfl ⟨Nat.le_of_ble_eq_true rfl, Nat.le_of_ble_eq_true rfl⟩ hP hD rfl rfl (zj_same hD hS hA) hS hl.1 rfl (Nat.le_of_ble_eq_true rfl) dX9_fullOf_1 ⟨Nat.zero_le _, Nat.zero_le _⟩ rfl (fun H locs hP hD hS => ?_)
  refine lv_iload_n X.1 X.2.1 dX9_fullOf_4 rfl (lv_at hl 1 rfl) ?_
  refine lv_if_ne (tgt := 15) X.1 X.2.1 dX9_fullOf_5 (by decide) (fun c3 => ?_) (fun c3 => ?_)
  · have hf := ite_f hf c3
    refine lv_aload_n X.1 X.2.1 dX9_fullOf_15 rfl (lv_at hl 0 rfl) ?_
    refine z_get X hK hP hiX9 0 rfl rfl 30 (by decide) (bw_in W20_23) rfl dX9_fullOf_16 ?_
    obtain ⟨rfl, rfl⟩ := z_inj2 hf
    exact z_iret X hr hlk hP hD hS dX9_fullOf_19
  · have hf := ite_t hf c3
    refine lv_aload_n X.1 X.2.1 dX9_fullOf_8 rfl (lv_at hl 0 rfl) ?_
    refine z_get X hK hP hiX9 0 rfl rfl 29 (by decide) (bw_in W20_22) rfl dX9_fullOf_9 ?_
    refine lv_goto (tgt := 19) X.1 X.2.1 dX9_fullOf_12 (by decide) ?_
    obtain ⟨rfl, rfl⟩ := z_inj2 hf
    exact z_iret X hr hlk hP hD hS dX9_fullOf_19
abbrev rmX9_moreBy : Room := { frames := 8, cells := 0, slots := 0, locals := 186 }
set_option maxHeartbeats 4000000 in
set_option maxRecDepth 100000 in
theorem kX9_moreBy (l : Launch) (D : va_G) (K : Nat → ClassId) (aM : Nat → Nat) (s0 : St) (sz : Nat)  (q_ : Int32) (s_ : St) (hf : fX9_moreBy s0 = some (q_, s_)) : Met l yX9_moreBy (bw (Cond.code yX9_moreBy cX9_moreBy 3 (some .int))) rmX9_moreBy (va_Pc [.ref (aM 0)] (zB D K sz (wbX9 K aM s0))) (zQ (some (.int q_)) D (va_A (wbX9 K aM s0) sz) (wbX9 K aM s_)) 0 0 (va_A (wbX9 K aM s0) sz) := by
  refine z_of (cc := cX9_moreBy) (maxL := 3) (ret := (some .int)) (own := RX9) (lv := [(0, .ref (aM 0))]) (by decide) rfl rfl (Nat.le_of_ble_eq_true rfl) rfl ?_
  intro p e s m below meth c X hr hlk hK hN hsz hP hD hA hS hin ls hl
  generalize va_A (wbX9 K aM s0) sz = A at hD hA hS hN ⊢
  have L48_2 : ∀ (rec40 : Int32 → St → Option (Int32 × St)) (hrec40 : ∀ (n40_0 : Int32) (q40_M : St), rec40 n40_0 q40_M = some ((q_, s_)) → ∀ (H : Heap) (locs : List Loc), va_P D vwCl (wbX9 K aM q40_M) H → va_D A (wbX9 K aM q40_M) → va_S A s.heap H locs → ∀ (ls : Array Slot), lv_has ls 3 [(0, .ref (aM 0)), (1, .int n40_0)] → W p l e rmX9_moreBy s m ([.ref (aM 0)] : List Value).toArray below meth c H locs 0 0 (MQ below (zQ (some (.int q_)) D A (wbX9 K aM s_)) ([.ref (aM 0)] : List Value).toArray s 0 0 A) (F0 m 40 ls [])), ∀ (n : Nat), ∀ (n48_0 : Int32) (n48_1 : Int32) (q48_M : St), fX9_moreBy_48 rec40 n n48_0 n48_1 q48_M = some ((q_, s_)) → ∀ (H : Heap) (locs : List Loc), va_P D vwCl (wbX9 K aM q48_M) H → va_D A (wbX9 K aM q48_M) → va_S A s.heap H locs → ∀ (ls : Array Slot), lv_has ls 3 [(0, .ref (aM 0)), (1, .int n48_0), (2, .int n48_1)] → W p l e rmX9_moreBy s m ([.ref (aM 0)] : List Value).toArray below meth c H locs 0 0 (MQ below (zQ (some (.int q_)) D A (wbX9 K aM s_)) ([.ref (aM 0)] : List Value).toArray s 0 0 A) (F0 m 48 ls []) := by
    intro rec40 hrec40 n
    induction n with
    | zero =>
      intro n48_0 n48_1 q48_M hf
      rw [fX9_moreBy_48] at hf
      cases hf
    | succ n ih =>
      intro n48_0 n48_1 q48_M hf H locs hP hD hS ls hl
      rw [fX9_moreBy_48] at hf
      refine lv_iload_n X.1 X.2.1 dX9_moreBy_48 rfl (lv_at hl 2 rfl) ?_
      refine lv_bipush (v := 10) X.1 X.2.1 dX9_moreBy_49 (by decide) ?_
      refine lv_icmp_ge (tgt := 72) X.1 X.2.1 dX9_moreBy_51 (by decide) (fun c7 => ?_) (fun c7 => ?_)
      · have hf := ite_t hf c7
        obtain ⟨w8, ew8, hf⟩ := stp_e hf
        refine lv_iinc (v := w8) (lv' := [(1, .int w8), (0, .ref (aM 0)), (2, .int n48_1)]) X.1 X.2.1 dX9_moreBy_72 hl (k := 1) rfl (by rw [ew8]; rfl) (by decide) rfl (fun ls hl => ?_)
        refine lv_goto (tgt := 40) X.1 X.2.1 dX9_moreBy_75 (by decide) ?_
        exact hrec40 _ _ hf _ _ hP hD hS _ (lv_sub hl [1, 0] rfl)
      · have hf := ite_f hf c7
        refine lv_aload_n X.1 X.2.1 dX9_moreBy_54 rfl (lv_at hl 0 rfl) ?_
        refine lv_iconst (v := 2) X.1 X.2.1 dX9_moreBy_55 (by decide) ?_
        refine lv_iload_n X.1 X.2.1 dX9_moreBy_56 rfl (lv_at hl 1 rfl) ?_
        refine lv_iload_n X.1 X.2.1 dX9_moreBy_57 rfl (lv_at hl 2 rfl) ?_
        obtain ⟨r9, s10, hc11, hf⟩ := bd2_e hf
        refine z_V (n := 3) (As := [.int 2, .int n48_0, .int n48_1]) (rest := []) (ci := 9) (q0 := 0) X hK hN (kX9_arrivesBy l D K aM q48_M _ 2 n48_0 n48_1 r9 s10 hc11) (bw_V W28_14 W28_15 W28_16 W1_5 W28_17) rfl ⟨rfl, rfl⟩ (by decide +kernel) rfl ⟨Nat.le_of_ble_eq_true rfl, Nat.le_of_ble_eq_true rfl⟩ hP hD rfl rfl (zj_same hD hS hA) hS hl.1 rfl (Nat.le_of_ble_eq_true rfl) dX9_moreBy_58 ⟨Nat.zero_le _, Nat.zero_le _⟩ rfl (fun H locs hP hD hS => ?_)
        refine lv_if_eq (tgt := 66) X.1 X.2.1 dX9_moreBy_61 (by decide) (fun c12 => ?_) (fun c12 => ?_)
        · have hf := ite_t hf c12
          obtain ⟨w13, ew13, hf⟩ := stp_e hf
          refine lv_iinc (v := w13) (lv' := [(2, .int w13), (0, .ref (aM 0)), (1, .int n48_0)]) X.1 X.2.1 dX9_moreBy_66 hl (k := 2) rfl (by rw [ew13]; rfl) (by decide) rfl (fun ls hl => ?_)
          refine lv_goto (tgt := 48) X.1 X.2.1 dX9_moreBy_69 (by decide) ?_
          exact ih _ _ _ hf _ _ hP hD hS _ (lv_sub hl [1, 2, 0] rfl)
        · have hf := ite_f hf c12
          refine lv_iconst (v := 2) X.1 X.2.1 dX9_moreBy_64 (by decide) ?_
          obtain ⟨rfl, rfl⟩ := z_inj2 hf
          exact z_iret X hr hlk hP hD hS dX9_moreBy_65
  have L40_1 : ∀ (n : Nat), ∀ (n40_0 : Int32) (q40_M : St), fX9_moreBy_40 n n40_0 q40_M = some ((q_, s_)) → ∀ (H : Heap) (locs : List Loc), va_P D vwCl (wbX9 K aM q40_M) H → va_D A (wbX9 K aM q40_M) → va_S A s.heap H locs → ∀ (ls : Array Slot), lv_has ls 3 [(0, .ref (aM 0)), (1, .int n40_0)] → W p l e rmX9_moreBy s m ([.ref (aM 0)] : List Value).toArray below meth c H locs 0 0 (MQ below (zQ (some (.int q_)) D A (wbX9 K aM s_)) ([.ref (aM 0)] : List Value).toArray s 0 0 A) (F0 m 40 ls []) := by
    intro n
    induction n with
    | zero =>
      intro n40_0 q40_M hf
      rw [fX9_moreBy_40] at hf
      cases hf
    | succ n ih =>
      intro n40_0 q40_M hf H locs hP hD hS ls hl
      rw [fX9_moreBy_40] at hf
      refine lv_iload_n X.1 X.2.1 dX9_moreBy_40 rfl (lv_at hl 1 rfl) ?_
      refine lv_bipush (v := 10) X.1 X.2.1 dX9_moreBy_41 (by decide) ?_
      refine lv_icmp_ge (tgt := 78) X.1 X.2.1 dX9_moreBy_43 (by decide) (fun c6 => ?_) (fun c6 => ?_)
      · have hf := ite_t hf c6
        refine lv_iconst (v := -1) X.1 X.2.1 dX9_moreBy_78 (by decide) ?_
        obtain ⟨rfl, rfl⟩ := z_inj2 hf
        exact z_iret X hr hlk hP hD hS dX9_moreBy_79
      · have hf := ite_f hf c6
        refine lv_iconst (v := 0) X.1 X.2.1 dX9_moreBy_46 (by decide) ?_
        refine lv_istore_n (lv' := [(2, .int 0), (0, .ref (aM 0)), (1, .int n40_0)]) X.1 X.2.1 dX9_moreBy_47 rfl hl (by decide) rfl (fun ls hl => ?_)
        exact L48_2 _ ih _ _ _ _ hf _ _ hP hD hS _ (lv_sub hl [1, 2, 0] rfl)
  have L14_0 : ∀ (n : Nat), ∀ (n14_0 : Int32) (q14_M : St), fX9_moreBy_14 n n14_0 q14_M = some ((q_, s_)) → ∀ (H : Heap) (locs : List Loc), va_P D vwCl (wbX9 K aM q14_M) H → va_D A (wbX9 K aM q14_M) → va_S A s.heap H locs → ∀ (ls : Array Slot), lv_has ls 3 [(0, .ref (aM 0)), (1, .int n14_0)] → W p l e rmX9_moreBy s m ([.ref (aM 0)] : List Value).toArray below meth c H locs 0 0 (MQ below (zQ (some (.int q_)) D A (wbX9 K aM s_)) ([.ref (aM 0)] : List Value).toArray s 0 0 A) (F0 m 14 ls []) := by
    intro n
    induction n with
    | zero =>
      intro n14_0 q14_M hf
      rw [fX9_moreBy_14] at hf
      cases hf
    | succ n ih =>
      intro n14_0 q14_M hf H locs hP hD hS ls hl
      rw [fX9_moreBy_14] at hf
      refine lv_iload_n X.1 X.2.1 dX9_moreBy_14 rfl (lv_at hl 1 rfl) ?_
      refine lv_bipush (v := 10) X.1 X.2.1 dX9_moreBy_15 (by decide) ?_
      refine lv_icmp_ge (tgt := 38) X.1 X.2.1 dX9_moreBy_17 (by decide) (fun c5 => ?_) (fun c5 => ?_)
      · have hf := ite_t hf c5
        refine lv_iconst (v := 0) X.1 X.2.1 dX9_moreBy_38 (by decide) ?_
        refine lv_istore_n (lv' := [(1, .int 0), (0, .ref (aM 0))]) X.1 X.2.1 dX9_moreBy_39 rfl hl (by decide) rfl (fun ls hl => ?_)
        exact L40_1  _ _ _ hf _ _ hP hD hS _ (lv_sub hl [1, 0] rfl)
      · have hf := ite_f hf c5
        refine lv_aload_n X.1 X.2.1 dX9_moreBy_20 rfl (lv_at hl 0 rfl) ?_
        refine lv_iconst (v := 1) X.1 X.2.1 dX9_moreBy_21 (by decide) ?_
        refine lv_iload_n X.1 X.2.1 dX9_moreBy_22 rfl (lv_at hl 1 rfl) ?_
        refine lv_iconst (v := 0) X.1 X.2.1 dX9_moreBy_23 (by decide) ?_
        obtain ⟨r14, s15, hc16, hf⟩ := bd2_e hf
        refine z_V (n := 3) (As := [.int 1, .int n14_0, .int 0]) (rest := []) (ci := 9) (q0 := 0) X hK hN (kX9_arrivesBy l D K aM q14_M _ 1 n14_0 0 r14 s15 hc16) (bw_V W28_14 W28_15 W28_16 W1_5 W28_17) rfl ⟨rfl, rfl⟩ (by decide +kernel) rfl ⟨Nat.le_of_ble_eq_true rfl, Nat.le_of_ble_eq_true rfl⟩ hP hD rfl rfl (zj_same hD hS hA) hS hl.1 rfl (Nat.le_of_ble_eq_true rfl) dX9_moreBy_24 ⟨Nat.zero_le _, Nat.zero_le _⟩ rfl (fun H locs hP hD hS => ?_)
        refine lv_if_eq (tgt := 32) X.1 X.2.1 dX9_moreBy_27 (by decide) (fun c17 => ?_) (fun c17 => ?_)
        · have hf := ite_t hf c17
          obtain ⟨w18, ew18, hf⟩ := stp_e hf
          refine lv_iinc (v := w18) (lv' := [(1, .int w18), (0, .ref (aM 0))]) X.1 X.2.1 dX9_moreBy_32 hl (k := 1) rfl (by rw [ew18]; rfl) (by decide) rfl (fun ls hl => ?_)
          refine lv_goto (tgt := 14) X.1 X.2.1 dX9_moreBy_35 (by decide) ?_
          exact ih _ _ hf _ _ hP hD hS _ (lv_sub hl [1, 0] rfl)
        · have hf := ite_f hf c17
          refine lv_iconst (v := 1) X.1 X.2.1 dX9_moreBy_30 (by decide) ?_
          obtain ⟨rfl, rfl⟩ := z_inj2 hf
          exact z_iret X hr hlk hP hD hS dX9_moreBy_31
  rw [fX9_moreBy] at hf
  refine lv_aload_n X.1 X.2.1 dX9_moreBy_0 rfl (lv_at hl 0 rfl) ?_
  refine lv_iconst (v := 0) X.1 X.2.1 dX9_moreBy_1 (by decide) ?_
  refine lv_iconst (v := 0) X.1 X.2.1 dX9_moreBy_2 (by decide) ?_
  refine lv_iconst (v := 0) X.1 X.2.1 dX9_moreBy_3 (by decide) ?_
  obtain ⟨r1, s2, hc3, hf⟩ := bd2_e hf
  refine z_V (n := 3) (As := [.int 0, .int 0, .int 0]) (rest := []) (ci := 9) (q0 := 0) X hK hN (kX9_arrivesBy l D K aM s0 _ 0 0 0 r1 s2 hc3) (bw_V W28_14 W28_15 W28_16 W1_5 W28_17) rfl ⟨rfl, rfl⟩ (by decide +kernel) rfl ⟨Nat.le_of_ble_eq_true rfl, Nat.le_of_ble_eq_true rfl⟩ hP hD rfl rfl (zj_same hD hS hA) hS hl.1 rfl (Nat.le_of_ble_eq_true rfl) dX9_moreBy_4 ⟨Nat.zero_le _, Nat.zero_le _⟩ rfl (fun H locs hP hD hS => ?_)
  refine lv_if_eq (tgt := 12) X.1 X.2.1 dX9_moreBy_7 (by decide) (fun c4 => ?_) (fun c4 => ?_)
  · have hf := ite_t hf c4
    refine lv_iconst (v := 0) X.1 X.2.1 dX9_moreBy_12 (by decide) ?_
    refine lv_istore_n (lv' := [(1, .int 0), (0, .ref (aM 0))]) X.1 X.2.1 dX9_moreBy_13 rfl hl (by decide) rfl (fun ls hl => ?_)
    exact L14_0  _ _ _ hf _ _ hP hD hS _ (lv_sub hl [1, 0] rfl)
  · have hf := ite_f hf c4
    refine lv_iconst (v := 0) X.1 X.2.1 dX9_moreBy_10 (by decide) ?_
    obtain ⟨rfl, rfl⟩ := z_inj2 hf
    exact z_iret X hr hlk hP hD hS dX9_moreBy_11
abbrev rmX9_ofRow : Room := { frames := 0, cells := 0, slots := 0, locals := 0 }
set_option maxHeartbeats 4000000 in
set_option maxRecDepth 100000 in
theorem kX9_ofRow (l : Launch) (D : va_G) (K : Nat → ClassId) (aM : Nat → Nat) (s0 : St) (sz : Nat) (x1 : Int32) (x2 : Int32) (q_ : Int32) (hf : fX9_ofRow s0 x1 x2 = some q_) : Met l yX9_ofRow (bw (Cond.code yX9_ofRow cX9_ofRow 3 (some .int))) rmX9_ofRow (va_Pc [.ref (aM 0), .int x1, .int x2] (zB D K sz (wbX9 K aM s0))) (zQ (some (.int q_)) D (va_A (wbX9 K aM s0) sz) (wbX9 K aM s0)) 0 0 (va_A (wbX9 K aM s0) sz) := by
  refine z_of (cc := cX9_ofRow) (maxL := 3) (ret := (some .int)) (own := RX9) (lv := [(0, .ref (aM 0)), (1, .int x1), (2, .int x2)]) (by decide) rfl rfl (Nat.le_of_ble_eq_true rfl) rfl ?_
  intro p e s m below meth c X hr hlk hK hN hsz hP hD hA hS hin ls hl
  generalize va_A (wbX9 K aM s0) sz = A at hD hA hS hN ⊢
  have hiX9 : ∀ w ∈ u_ws RX9 TX9 44, w ∈ (bw (Cond.code yX9_ofRow cX9_ofRow 3 (some .int))) := fun w h => bw_in (inlX9 w h)
  rw [fX9_ofRow] at hf
  refine lv_iload_n X.1 X.2.1 dX9_ofRow_0 rfl (lv_at hl 2 rfl) ?_
  refine lv_iconst (v := -1) X.1 X.2.1 dX9_ofRow_1 (by decide) ?_
  refine lv_icmp_ne (tgt := 9) X.1 X.2.1 dX9_ofRow_2 (by decide) (fun c1 => ?_) (fun c1 => ?_)
  · have hf := ite_f hf c1
    refine lv_iload_n X.1 X.2.1 dX9_ofRow_9 rfl (lv_at hl 2 rfl) ?_
    refine lv_iload_n X.1 X.2.1 dX9_ofRow_10 rfl (lv_at hl 1 rfl) ?_
    refine lv_icmp_ge (tgt := 23) X.1 X.2.1 dX9_ofRow_11 (by decide) (fun c2 => ?_) (fun c2 => ?_)
    · have hf := ite_t hf c2
      refine lv_iconst (v := -1) X.1 X.2.1 dX9_ofRow_23 (by decide) ?_
      obtain rfl := z_inj1 hf
      exact z_iret X hr hlk hP hD hS dX9_ofRow_24
    · have hf := ite_f hf c2
      refine lv_aload_n X.1 X.2.1 dX9_ofRow_14 rfl (lv_at hl 0 rfl) ?_
      refine z_get X hK hP hiX9 0 rfl rfl 33 (by decide) (bw_in W7_10) rfl dX9_ofRow_15 ?_
      refine lv_iload_n X.1 X.2.1 dX9_ofRow_18 rfl (lv_at hl 2 rfl) ?_
      obtain ⟨hi4, hf⟩ := chk_e hf
      obtain ⟨v3, ev3, hf⟩ := stp_e hf
      refine z_iald X hK hP 19 rfl hi4 ev3 dX9_ofRow_19 ?_
      refine lv_goto (tgt := 24) X.1 X.2.1 dX9_ofRow_20 (by decide) ?_
      obtain rfl := z_inj1 hf
      exact z_iret X hr hlk hP hD hS dX9_ofRow_24
  · have hf := ite_t hf c1
    refine lv_iload_n X.1 X.2.1 dX9_ofRow_5 rfl (lv_at hl 1 rfl) ?_
    refine lv_goto (tgt := 24) X.1 X.2.1 dX9_ofRow_6 (by decide) ?_
    obtain rfl := z_inj1 hf
    exact z_iret X hr hlk hP hD hS dX9_ofRow_24
abbrev rmX9_loadBehind : Room := { frames := 0, cells := 0, slots := 0, locals := 0 }
set_option maxHeartbeats 4000000 in
set_option maxRecDepth 100000 in
theorem kX9_loadBehind (l : Launch) (D : va_G) (K : Nat → ClassId) (aM : Nat → Nat) (s0 : St) (sz : Nat) (x1 : Int32) (q_ : Int32) (hf : fX9_loadBehind s0 x1 = some q_) : Met l yX9_loadBehind (bw (Cond.code yX9_loadBehind cX9_loadBehind 2 (some .int))) rmX9_loadBehind (va_Pc [.ref (aM 0), .int x1] (zB D K sz (wbX9 K aM s0))) (zQ (some (.int q_)) D (va_A (wbX9 K aM s0) sz) (wbX9 K aM s0)) 0 0 (va_A (wbX9 K aM s0) sz) := by
  refine z_of (cc := cX9_loadBehind) (maxL := 2) (ret := (some .int)) (own := RX9) (lv := [(0, .ref (aM 0)), (1, .int x1)]) (by decide) rfl rfl (Nat.le_of_ble_eq_true rfl) rfl ?_
  intro p e s m below meth c X hr hlk hK hN hsz hP hD hA hS hin ls hl
  generalize va_A (wbX9 K aM s0) sz = A at hD hA hS hN ⊢
  have hiX9 : ∀ w ∈ u_ws RX9 TX9 44, w ∈ (bw (Cond.code yX9_loadBehind cX9_loadBehind 2 (some .int))) := fun w h => bw_in (inlX9 w h)
  rw [fX9_loadBehind] at hf
  refine lv_aload_n X.1 X.2.1 dX9_loadBehind_0 rfl (lv_at hl 0 rfl) ?_
  refine z_get X hK hP hiX9 0 rfl rfl 23 (by decide) (bw_in W7_2) rfl dX9_loadBehind_1 ?_
  refine lv_iload_n X.1 X.2.1 dX9_loadBehind_4 rfl (lv_at hl 1 rfl) ?_
  refine lv_aload_n X.1 X.2.1 dX9_loadBehind_5 rfl (lv_at hl 0 rfl) ?_
  refine z_get X hK hP hiX9 0 rfl rfl 16 (by decide) (bw_in W19_22) rfl dX9_loadBehind_6 ?_
  refine lv_icmp_ge (tgt := 16) X.1 X.2.1 dX9_loadBehind_9 (by decide) (fun c1 => ?_) (fun c1 => ?_)
  · have hf := ite_t hf c1
    refine lv_aload_n X.1 X.2.1 dX9_loadBehind_16 rfl (lv_at hl 0 rfl) ?_
    refine z_get X hK hP hiX9 0 rfl rfl 16 (by decide) (bw_in W19_22) rfl dX9_loadBehind_17 ?_
    obtain ⟨hi3, hf⟩ := chk_e hf
    obtain ⟨v2, ev2, hf⟩ := stp_e hf
    refine z_iald X hK hP 11 rfl hi3 ev2 dX9_loadBehind_20 ?_
    obtain rfl := z_inj1 hf
    exact z_iret X hr hlk hP hD hS dX9_loadBehind_21
  · have hf := ite_f hf c1
    refine lv_iload_n X.1 X.2.1 dX9_loadBehind_12 rfl (lv_at hl 1 rfl) ?_
    refine lv_goto (tgt := 20) X.1 X.2.1 dX9_loadBehind_13 (by decide) ?_
    obtain ⟨hi5, hf⟩ := chk_e hf
    obtain ⟨v4, ev4, hf⟩ := stp_e hf
    refine z_iald X hK hP 11 rfl hi5 ev4 dX9_loadBehind_20 ?_
    obtain rfl := z_inj1 hf
    exact z_iret X hr hlk hP hD hS dX9_loadBehind_21
abbrev rmX9_isSeen : Room := { frames := 5, cells := 0, slots := 0, locals := 113 }
set_option maxHeartbeats 4000000 in
set_option maxRecDepth 100000 in
theorem kX9_isSeen (l : Launch) (D : va_G) (K : Nat → ClassId) (aM : Nat → Nat) (s0 : St) (sz : Nat)  (q_ : Int32) (s_ : St) (hf : fX9_isSeen s0 = some (q_, s_)) : Met l yX9_isSeen (bw (Cond.code yX9_isSeen cX9_isSeen 3 (some .boolean))) rmX9_isSeen (va_Pc [.ref (aM 0)] (zB D K sz (wbX9 K aM s0))) (zQ (some (.int q_)) D (va_A (wbX9 K aM s0) sz) (wbX9 K aM s_)) 0 0 (va_A (wbX9 K aM s0) sz) := by
  refine z_of (cc := cX9_isSeen) (maxL := 3) (ret := (some .boolean)) (own := RX9) (lv := [(0, .ref (aM 0))]) (by decide) rfl rfl (Nat.le_of_ble_eq_true rfl) rfl ?_
  intro p e s m below meth c X hr hlk hK hN hsz hP hD hA hS hin ls hl
  generalize va_A (wbX9 K aM s0) sz = A at hD hA hS hN ⊢
  have hiX9 : ∀ w ∈ u_ws RX9 TX9 44, w ∈ (bw (Cond.code yX9_isSeen cX9_isSeen 3 (some .boolean))) := fun w h => bw_in (inlX9 w h)
  have L8_0 : ∀ (n : Nat), ∀ (n8_0 : Int32) (n8_1 : Int32) (q8_M : St), fX9_isSeen_8 n n8_0 n8_1 q8_M = some ((q_, s_)) → ∀ (H : Heap) (locs : List Loc), va_P D vwCl (wbX9 K aM q8_M) H → va_D A (wbX9 K aM q8_M) → va_S A s.heap H locs → ∀ (ls : Array Slot), lv_has ls 3 [(0, .ref (aM 0)), (1, .int n8_0), (2, .int n8_1)] → W p l e rmX9_isSeen s m ([.ref (aM 0)] : List Value).toArray below meth c H locs 0 0 (MQ below (zQ (some (.int q_)) D A (wbX9 K aM s_)) ([.ref (aM 0)] : List Value).toArray s 0 0 A) (F0 m 8 ls []) := by
    intro n
    induction n with
    | zero =>
      intro n8_0 n8_1 q8_M hf
      rw [fX9_isSeen_8] at hf
      cases hf
    | succ n ih =>
      intro n8_0 n8_1 q8_M hf H locs hP hD hS ls hl
      rw [fX9_isSeen_8] at hf
      refine lv_iload_n X.1 X.2.1 dX9_isSeen_8 rfl (lv_at hl 2 rfl) ?_
      refine lv_aload_n X.1 X.2.1 dX9_isSeen_9 rfl (lv_at hl 0 rfl) ?_
      refine z_get X hK hP hiX9 0 rfl rfl 34 (by decide) (bw_in W30_21) rfl dX9_isSeen_10 ?_
      refine lv_icmp_ge (tgt := 51) X.1 X.2.1 dX9_isSeen_13 (by decide) (fun c3 => ?_) (fun c3 => ?_)
      · have hf := ite_t hf c3
        refine lv_iload_n X.1 X.2.1 dX9_isSeen_51 rfl (lv_at hl 1 rfl) ?_
        obtain ⟨hb1, hf⟩ := asr_e hf
        obtain ⟨rfl, rfl⟩ := z_inj2 hf
        exact z_zret X hr hlk hb1 hP hD hS dX9_isSeen_52
      · have hf := ite_f hf c3
        refine lv_iload_n X.1 X.2.1 dX9_isSeen_16 rfl (lv_at hl 1 rfl) ?_
        refine lv_if_eq (tgt := 43) X.1 X.2.1 dX9_isSeen_17 (by decide) (fun c4 => ?_) (fun c4 => ?_)
        · have hf := ite_t hf c4
          refine lv_iconst (v := 0) X.1 X.2.1 dX9_isSeen_43 (by decide) ?_
          refine lv_istore_n (lv' := [(1, .int 0), (0, .ref (aM 0)), (2, .int n8_1)]) X.1 X.2.1 dX9_isSeen_44 rfl hl (by decide) rfl (fun ls hl => ?_)
          obtain ⟨w5, ew5, hf⟩ := stp_e hf
          refine lv_iinc (v := w5) (lv' := [(2, .int w5), (1, .int 0), (0, .ref (aM 0))]) X.1 X.2.1 dX9_isSeen_45 hl (k := 2) rfl (by rw [ew5]; rfl) (by decide) rfl (fun ls hl => ?_)
          refine lv_goto (tgt := 8) X.1 X.2.1 dX9_isSeen_48 (by decide) ?_
          exact ih _ _ _ hf _ _ hP hD hS _ (lv_sub hl [2, 1, 0] rfl)
        · have hf := ite_f hf c4
          refine lv_aload_n X.1 X.2.1 dX9_isSeen_20 rfl (lv_at hl 0 rfl) ?_
          refine lv_aload_n X.1 X.2.1 dX9_isSeen_21 rfl (lv_at hl 0 rfl) ?_
          refine z_get X hK hP hiX9 0 rfl rfl 35 (by decide) (bw_in W7_11) rfl dX9_isSeen_22 ?_
          refine lv_iload_n X.1 X.2.1 dX9_isSeen_25 rfl (lv_at hl 2 rfl) ?_
          obtain ⟨hi7, hf⟩ := chk_e hf
          obtain ⟨v6, ev6, hf⟩ := stp_e hf
          refine z_iald X hK hP 20 rfl hi7 ev6 dX9_isSeen_26 ?_
          obtain ⟨r8, hc9, hf⟩ := bd1_e hf
          refine z_V (n := 1) (As := [.int v6]) (rest := []) (ci := 9) (q0 := 0) X hK hN (kX9_loadBehind l D K aM q8_M _ v6 r8 hc9) (bw_V W33_19 W33_20 W33_21 W1_5 W33_22) rfl ⟨rfl, rfl⟩ (by decide +kernel) rfl ⟨Nat.le_of_ble_eq_true rfl, Nat.le_of_ble_eq_true rfl⟩ hP hD rfl rfl (zj_same hD hS hA) hS hl.1 rfl (Nat.le_of_ble_eq_true rfl) dX9_isSeen_27 ⟨Nat.zero_le _, Nat.zero_le _⟩ rfl (fun H locs hP hD hS => ?_)
          refine lv_aload_n X.1 X.2.1 dX9_isSeen_30 rfl (lv_at hl 0 rfl) ?_
          refine z_get X hK hP hiX9 0 rfl rfl 36 (by decide) (bw_in W7_12) rfl dX9_isSeen_31 ?_
          refine lv_iload_n X.1 X.2.1 dX9_isSeen_34 rfl (lv_at hl 2 rfl) ?_
          obtain ⟨hi11, hf⟩ := chk_e hf
          obtain ⟨v10, ev10, hf⟩ := stp_e hf
          refine z_iald X hK hP 21 rfl hi11 ev10 dX9_isSeen_35 ?_
          refine lv_icmp_ne (tgt := 43) X.1 X.2.1 dX9_isSeen_36 (by decide) (fun c12 => ?_) (fun c12 => ?_)
          · have hf := ite_f hf c12
            refine lv_iconst (v := 0) X.1 X.2.1 dX9_isSeen_43 (by decide) ?_
            refine lv_istore_n (lv' := [(1, .int 0), (0, .ref (aM 0)), (2, .int n8_1)]) X.1 X.2.1 dX9_isSeen_44 rfl hl (by decide) rfl (fun ls hl => ?_)
            obtain ⟨w13, ew13, hf⟩ := stp_e hf
            refine lv_iinc (v := w13) (lv' := [(2, .int w13), (1, .int 0), (0, .ref (aM 0))]) X.1 X.2.1 dX9_isSeen_45 hl (k := 2) rfl (by rw [ew13]; rfl) (by decide) rfl (fun ls hl => ?_)
            refine lv_goto (tgt := 8) X.1 X.2.1 dX9_isSeen_48 (by decide) ?_
            exact ih _ _ _ hf _ _ hP hD hS _ (lv_sub hl [2, 1, 0] rfl)
          · have hf := ite_t hf c12
            refine lv_iconst (v := 1) X.1 X.2.1 dX9_isSeen_39 (by decide) ?_
            refine lv_goto (tgt := 44) X.1 X.2.1 dX9_isSeen_40 (by decide) ?_
            refine lv_istore_n (lv' := [(1, .int 1), (0, .ref (aM 0)), (2, .int n8_1)]) X.1 X.2.1 dX9_isSeen_44 rfl hl (by decide) rfl (fun ls hl => ?_)
            obtain ⟨w14, ew14, hf⟩ := stp_e hf
            refine lv_iinc (v := w14) (lv' := [(2, .int w14), (1, .int 1), (0, .ref (aM 0))]) X.1 X.2.1 dX9_isSeen_45 hl (k := 2) rfl (by rw [ew14]; rfl) (by decide) rfl (fun ls hl => ?_)
            refine lv_goto (tgt := 8) X.1 X.2.1 dX9_isSeen_48 (by decide) ?_
            exact ih _ _ _ hf _ _ hP hD hS _ (lv_sub hl [2, 1, 0] rfl)
  rw [fX9_isSeen] at hf
  refine lv_aload_n X.1 X.2.1 dX9_isSeen_0 rfl (lv_at hl 0 rfl) ?_
  obtain ⟨s1, hc2, hf⟩ := bd1_e hf
  refine z_V (n := 0) (As := []) (rest := []) (ci := 9) (q0 := 0) X hK hN (kX9_runs l D K aM s0 _ s1 hc2) (bw_V W20_9 W20_10 W20_11 W1_5 W20_12) rfl ⟨rfl, rfl⟩ (by decide +kernel) rfl ⟨Nat.le_of_ble_eq_true rfl, Nat.le_of_ble_eq_true rfl⟩ hP hD rfl rfl (zj_same hD hS hA) hS hl.1 rfl (Nat.le_of_ble_eq_true rfl) dX9_isSeen_1 ⟨Nat.zero_le _, Nat.zero_le _⟩ rfl (fun H locs hP hD hS => ?_)
  refine lv_iconst (v := 1) X.1 X.2.1 dX9_isSeen_4 (by decide) ?_
  refine lv_istore_n (lv' := [(1, .int 1), (0, .ref (aM 0))]) X.1 X.2.1 dX9_isSeen_5 rfl hl (by decide) rfl (fun ls hl => ?_)
  refine lv_iconst (v := 0) X.1 X.2.1 dX9_isSeen_6 (by decide) ?_
  refine lv_istore_n (lv' := [(2, .int 0), (1, .int 1), (0, .ref (aM 0))]) X.1 X.2.1 dX9_isSeen_7 rfl hl (by decide) rfl (fun ls hl => ?_)
  exact L8_0  _ _ _ _ hf _ _ hP hD hS _ (lv_sub hl [2, 1, 0] rfl)
