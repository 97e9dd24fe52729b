abbrev rmX9_ends : Room := { frames := 9, cells := 0, slots := 0, locals := 203 }
set_option maxHeartbeats 4000000 in
set_option maxRecDepth 100000 in
theorem kX9_ends (l : Launch) (D : va_G) (K : Nat → ClassId) (aM : Nat → Nat) (s0 : St) (sz : Nat)  (q_ : Int32) (s_ : St) (hf : fX9_ends s0 = some (q_, s_)) : Met l yX9_ends (bw (Cond.code yX9_ends cX9_ends 1 (some .int))) rmX9_ends (va_Pc [.ref (aM 0)] (zB D K sz (wbX9 K aM s0))) (zQ (some (.int q_)) D (va_A (wbX9 K aM s0) sz) (wbX9 K aM s_)) 0 0 (va_A (wbX9 K aM s0) sz) := by
  refine z_of (cc := cX9_ends) (maxL := 1) (ret := (some .int)) (own := RX9) (lv := [(0, .ref (aM 0))]) (by decide) rfl rfl (Nat.le_of_ble_eq_true rfl) rfl ?_
  intro p e s m below meth c X hr hlk hK hN hsz hP hD hA hS hin ls hl
  generalize va_A (wbX9 K aM s0) sz = A at hD hA hS hN ⊢
  rw [fX9_ends] at hf
  refine lv_aload_n X.1 X.2.1 dX9_ends_0 rfl (lv_at hl 0 rfl) ?_
  obtain ⟨r1, s2, hc3, hf⟩ := bd2_e hf
  refine z_V (n := 0) (As := []) (rest := []) (ci := 9) (q0 := 0) X hK hN (kX9_endsNow l D K aM s0 _ r1 s2 hc3) (bw_V W22_15 W22_16 W22_17 W1_5 W22_18) rfl ⟨rfl, rfl⟩ (by decide +kernel) rfl ⟨Nat.le_of_ble_eq_true rfl, Nat.le_of_ble_eq_true rfl⟩ hP hD rfl rfl (zj_same hD hS hA) hS hl.1 rfl (Nat.le_of_ble_eq_true rfl) dX9_ends_1 ⟨Nat.zero_le _, Nat.zero_le _⟩ rfl (fun H locs hP hD hS => ?_)
  obtain ⟨rfl, rfl⟩ := z_inj2 hf
  exact z_iret X hr hlk hP hD hS dX9_ends_4
abbrev rmX9_isText : Room := { frames := 1, cells := 0, slots := 0, locals := 22 }
set_option maxHeartbeats 4000000 in
set_option maxRecDepth 100000 in
theorem kX9_isText (l : Launch) (D : va_G) (K : Nat → ClassId)   (sz : Nat) (x1 : Int32) (q_ : Int32) (hf : fX9_isText x1 = some q_) : Met l yX9_isText (bw (Cond.code yX9_isText cX9_isText 1 (some .boolean))) rmX9_isText (va_Pc [.int x1] (zB D K sz (([] : va_W)))) (zQ (some (.int q_)) D (va_A (([] : va_W)) sz) (([] : va_W))) 0 0 (va_A (([] : va_W)) sz) := by
  refine z_of (cc := cX9_isText) (maxL := 1) (ret := (some .boolean)) (own := RX9) (lv := [(0, .int x1)]) (by decide) rfl rfl (Nat.le_of_ble_eq_true rfl) rfl ?_
  intro p e s m below meth c X hr hlk hK hN hsz hP hD hA hS hin ls hl
  generalize va_A (([] : va_W)) sz = A at hD hA hS hN ⊢
  rw [fX9_isText] at hf
  refine lv_iload_n X.1 X.2.1 dX9_isText_0 rfl (lv_at hl 0 rfl) ?_
  refine lv_iconst (v := 0) X.1 X.2.1 dX9_isText_1 (by decide) ?_
  refine lv_iconst (v := 2) X.1 X.2.1 dX9_isText_2 (by decide) ?_
  obtain ⟨r1, hc2, hf⟩ := bd1_e hf
  refine z_S (n := 3) (As := [.int x1, .int 0, .int 2]) (rest := []) X hK hN (kX9_in l D K _ x1 0 2 r1 hc2) (bw_S W8_17 W8_18 W1_5 W8_19) rfl ⟨rfl, rfl⟩ (by decide +kernel) rfl ⟨Nat.le_of_ble_eq_true rfl, Nat.le_of_ble_eq_true rfl⟩ (fun _ _ h => by simp at h) ⟨fun _ _ _ _ h => by simp at h, fun _ _ h => by simp at h⟩ (zj_none hP hD hS hA) hS hl.1 rfl (Nat.le_of_ble_eq_true rfl) dX9_isText_3 ⟨Nat.zero_le _, Nat.zero_le _⟩ rfl (fun H locs hP hD hS => ?_)
  obtain ⟨hb1, hf⟩ := asr_e hf
  obtain rfl := z_inj1 hf
  exact z_zret X hr hlk hb1 hP hD hS dX9_isText_6
abbrev rmX9_fault : Room := { frames := 5, cells := 0, slots := 0, locals := 121 }
set_option maxHeartbeats 4000000 in
set_option maxRecDepth 100000 in
theorem kX9_fault (l : Launch) (D : va_G) (K : Nat → ClassId) (aM : Nat → Nat) (s0 : St) (sz : Nat) (x1 : Int32) (q_ : Int32) (s_ : St) (hf : fX9_fault s0 x1 = some (q_, s_)) : Met l yX9_fault (bw (Cond.code yX9_fault cX9_fault 2 (some .int))) rmX9_fault (va_Pc [.ref (aM 0), .int x1] (zB D K sz (wbX9 K aM s0))) (zQ (some (.int q_)) D (va_A (wbX9 K aM s0) sz) (wbX9 K aM s_)) 0 0 (va_A (wbX9 K aM s0) sz) := by
  refine z_of (cc := cX9_fault) (maxL := 2) (ret := (some .int)) (own := RX9) (lv := [(0, .ref (aM 0)), (1, .int x1)]) (by decide) rfl rfl (Nat.le_of_ble_eq_true rfl) rfl ?_
  intro p e s m below meth c X hr hlk hK hN hsz hP hD hA hS hin ls hl
  generalize va_A (wbX9 K aM s0) sz = A at hD hA hS hN ⊢
  rw [fX9_fault] at hf
  refine lv_iload_n X.1 X.2.1 dX9_fault_0 rfl (lv_at hl 1 rfl) ?_
  obtain ⟨r1, hc2, hf⟩ := bd1_e hf
  refine z_S (n := 1) (As := [.int x1]) (rest := []) X hK hN (kX9_isText l D K _ x1 r1 hc2) (bw_S W8_14 W8_15 W1_5 W8_16) rfl ⟨rfl, rfl⟩ (by decide +kernel) rfl ⟨Nat.le_of_ble_eq_true rfl, Nat.le_of_ble_eq_true rfl⟩ (fun _ _ h => by simp at h) ⟨fun _ _ _ _ h => by simp at h, fun _ _ h => by simp at h⟩ (zj_none hP hD hS hA) hS hl.1 rfl (Nat.le_of_ble_eq_true rfl) dX9_fault_1 ⟨Nat.zero_le _, Nat.zero_le _⟩ rfl (fun H locs hP hD hS => ?_)
  refine lv_if_eq (tgt := 15) X.1 X.2.1 dX9_fault_4 (by decide) (fun c3 => ?_) (fun c3 => ?_)
  · have hf := ite_t hf c3
    refine lv_bipush (v := -2) X.1 X.2.1 dX9_fault_15 (by decide) ?_
    obtain ⟨rfl, rfl⟩ := z_inj2 hf
    exact z_iret X hr hlk hP hD hS dX9_fault_17
  · have hf := ite_f hf c3
    refine lv_aload_n X.1 X.2.1 dX9_fault_7 rfl (lv_at hl 0 rfl) ?_
    refine lv_iload_n X.1 X.2.1 dX9_fault_8 rfl (lv_at hl 1 rfl) ?_
    obtain ⟨r4, s5, hc6, hf⟩ := bd2_e hf
    refine z_V (n := 1) (As := [.int x1]) (rest := []) (ci := 9) (q0 := 0) X hK hN (kX9_faultOf l D K aM s0 _ x1 r4 s5 hc6) (bw_V W10_4 W10_5 W10_6 W1_5 W10_7) rfl ⟨rfl, rfl⟩ (by decide +kernel) rfl ⟨Nat.le_of_ble_eq_true rfl, Nat.le_of_ble_eq_true rfl⟩ hP hD rfl rfl (zj_same hD hS hA) hS hl.1 rfl (Nat.le_of_ble_eq_true rfl) dX9_fault_9 ⟨Nat.zero_le _, Nat.zero_le _⟩ rfl (fun H locs hP hD hS => ?_)
    refine lv_goto (tgt := 17) X.1 X.2.1 dX9_fault_12 (by decide) ?_
    obtain ⟨rfl, rfl⟩ := z_inj2 hf
    exact z_iret X hr hlk hP hD hS dX9_fault_17
abbrev rmX9_forget : Room := { frames := 0, cells := 0, slots := 0, locals := 0 }
set_option maxHeartbeats 4000000 in
set_option maxRecDepth 100000 in
theorem kX9_forget (l : Launch) (D : va_G) (K : Nat → ClassId) (aM : Nat → Nat) (s0 : St) (sz : Nat)  (q_ : Int32) (s_ : St) (hf : fX9_forget s0 = some (q_, s_)) : Met l yX9_forget (bw (Cond.code yX9_forget cX9_forget 2 (some .int))) rmX9_forget (va_Pc [.ref (aM 0)] (zB D K sz (wbX9 K aM s0))) (zQ (some (.int q_)) D (va_A (wbX9 K aM s0) sz) (wbX9 K aM s_)) 0 0 (va_A (wbX9 K aM s0) sz) := by
  refine z_of (cc := cX9_forget) (maxL := 2) (ret := (some .int)) (own := RX9) (lv := [(0, .ref (aM 0))]) (by decide) rfl rfl (Nat.le_of_ble_eq_true rfl) rfl ?_
  intro p e s m below meth c X hr hlk hK hN hsz hP hD hA hS hin ls hl
  generalize va_A (wbX9 K aM s0) sz = A at hD hA hS hN ⊢
  have hiX9 : ∀ w ∈ u_ws RX9 TX9 44, w ∈ (bw (Cond.code yX9_forget cX9_forget 2 (some .int))) := fun w h => bw_in (inlX9 w h)
  rw [fX9_forget] at hf
  refine lv_aload_n X.1 X.2.1 dX9_forget_0 rfl (lv_at hl 0 rfl) ?_
  refine z_get X hK hP hiX9 0 rfl rfl 34 (by decide) (bw_in W30_21) rfl dX9_forget_1 ?_
  obtain ⟨w1, ew1, hf⟩ := stp_e hf
  refine z_top ew1 ?_
  refine lv_istore_n (lv' := [(1, .int w1), (0, .ref (aM 0))]) X.1 X.2.1 dX9_forget_4 rfl hl (by decide) rfl (fun ls hl => ?_)
  refine lv_aload_n X.1 X.2.1 dX9_forget_5 rfl (lv_at hl 1 rfl) ?_
  refine lv_iconst (v := 0) X.1 X.2.1 dX9_forget_6 (by decide) ?_
  obtain ⟨s2, es2, hf⟩ := stp_e hf
  refine z_put (ws' := wbX9 K aM s2) X hK hP hD hS hiX9 tyX9_ok nmX9 0 rfl rfl 34 (by decide) (bw_in W30_21) rfl rfl rfl (Nat.le_of_ble_eq_true rfl) dX9_forget_7 (by rw [es2]; rfl) (fun H locs hP hD hS => ?_)
  refine lv_iload_n X.1 X.2.1 dX9_forget_10 rfl (lv_at hl 0 rfl) ?_
  obtain ⟨rfl, rfl⟩ := z_inj2 hf
  exact z_iret X hr hlk hP hD hS dX9_forget_11
abbrev rmX9_full : Room := { frames := 9, cells := 0, slots := 0, locals := 204 }
set_option maxHeartbeats 4000000 in
set_option maxRecDepth 100000 in
theorem kX9_full (l : Launch) (D : va_G) (K : Nat → ClassId) (aM : Nat → Nat) (s0 : St) (sz : Nat) (x1 : Int32) (q_ : Int32) (s_ : St) (hf : fX9_full s0 x1 = some (q_, s_)) : Met l yX9_full (bw (Cond.code yX9_full cX9_full 2 (some .int))) rmX9_full (va_Pc [.ref (aM 0), .int x1] (zB D K sz (wbX9 K aM s0))) (zQ (some (.int q_)) D (va_A (wbX9 K aM s0) sz) (wbX9 K aM s_)) 0 0 (va_A (wbX9 K aM s0) sz) := by
  refine z_of (cc := cX9_full) (maxL := 2) (ret := (some .int)) (own := RX9) (lv := [(0, .ref (aM 0)), (1, .int x1)]) (by decide) rfl rfl (Nat.le_of_ble_eq_true rfl) rfl ?_
  intro p e s m below meth c X hr hlk hK hN hsz hP hD hA hS hin ls hl
  generalize va_A (wbX9 K aM s0) sz = A at hD hA hS hN ⊢
  rw [fX9_full] at hf
  refine lv_iload_n X.1 X.2.1 dX9_full_0 rfl (lv_at hl 1 rfl) ?_
  refine lv_iconst (v := 0) X.1 X.2.1 dX9_full_1 (by decide) ?_
  refine lv_iconst (v := 1) X.1 X.2.1 dX9_full_2 (by decide) ?_
  obtain ⟨r1, hc2, hf⟩ := bd1_e hf
  refine z_S (n := 3) (As := [.int x1, .int 0, .int 1]) (rest := []) X hK hN (kX9_in l D K _ x1 0 1 r1 hc2) (bw_S W8_17 W8_18 W1_5 W8_19) rfl ⟨rfl, rfl⟩ (by decide +kernel) rfl ⟨Nat.le_of_ble_eq_true rfl, Nat.le_of_ble_eq_true rfl⟩ (fun _ _ h => by simp at h) ⟨fun _ _ _ _ h => by simp at h, fun _ _ h => by simp at h⟩ (zj_none hP hD hS hA) hS hl.1 rfl (Nat.le_of_ble_eq_true rfl) dX9_full_3 ⟨Nat.zero_le _, Nat.zero_le _⟩ rfl (fun H locs hP hD hS => ?_)
  refine lv_if_eq (tgt := 17) X.1 X.2.1 dX9_full_6 (by decide) (fun c3 => ?_) (fun c3 => ?_)
  · have hf := ite_t hf c3
    refine lv_bipush (v := -2) X.1 X.2.1 dX9_full_17 (by decide) ?_
    obtain ⟨rfl, rfl⟩ := z_inj2 hf
    exact z_iret X hr hlk hP hD hS dX9_full_19
  · have hf := ite_f hf c3
    refine lv_aload_n X.1 X.2.1 dX9_full_9 rfl (lv_at hl 0 rfl) ?_
    refine lv_iload_n X.1 X.2.1 dX9_full_10 rfl (lv_at hl 1 rfl) ?_
    obtain ⟨r4, s5, hc6, hf⟩ := bd2_e hf
    refine z_V (n := 1) (As := [.int x1]) (rest := []) (ci := 9) (q0 := 0) X hK hN (kX9_fullOf l D K aM s0 _ x1 r4 s5 hc6) (bw_V W24_15 W24_16 W24_17 W1_5 W24_18) rfl ⟨rfl, rfl⟩ (by decide +kernel) rfl ⟨Nat.le_of_ble_eq_true rfl, Nat.le_of_ble_eq_true rfl⟩ hP hD rfl rfl (zj_same hD hS hA) hS hl.1 rfl (Nat.le_of_ble_eq_true rfl) dX9_full_11 ⟨Nat.zero_le _, Nat.zero_le _⟩ rfl (fun H locs hP hD hS => ?_)
    refine lv_goto (tgt := 19) X.1 X.2.1 dX9_full_14 (by decide) ?_
    obtain ⟨rfl, rfl⟩ := z_inj2 hf
    exact z_iret X hr hlk hP hD hS dX9_full_19
abbrev rmX9_lacks : Room := { frames := 1, cells := 0, slots := 0, locals := 22 }
set_option maxHeartbeats 4000000 in
set_option maxRecDepth 100000 in
theorem kX9_lacks (l : Launch) (D : va_G) (K : Nat → ClassId) (aM : Nat → Nat) (s0 : St) (sz : Nat) (x1 : Int32) (x2 : Int32) (x3 : Int32) (q_ : Int32) (hf : fX9_lacks s0 x1 x2 x3 = some q_) : Met l yX9_lacks (bw (Cond.code yX9_lacks cX9_lacks 4 (some .int))) rmX9_lacks (va_Pc [.ref (aM 0), .int x1, .int x2, .int x3] (zB D K sz (wbX9 K aM s0))) (zQ (some (.int q_)) D (va_A (wbX9 K aM s0) sz) (wbX9 K aM s0)) 0 0 (va_A (wbX9 K aM s0) sz) := by
  refine z_of (cc := cX9_lacks) (maxL := 4) (ret := (some .int)) (own := RX9) (lv := [(0, .ref (aM 0)), (1, .int x1), (2, .int x2), (3, .int x3)]) (by decide) rfl rfl (Nat.le_of_ble_eq_true rfl) rfl ?_
  intro p e s m below meth c X hr hlk hK hN hsz hP hD hA hS hin ls hl
  generalize va_A (wbX9 K aM s0) sz = A at hD hA hS hN ⊢
  have hiX9 : ∀ w ∈ u_ws RX9 TX9 44, w ∈ (bw (Cond.code yX9_lacks cX9_lacks 4 (some .int))) := fun w h => bw_in (inlX9 w h)
  rw [fX9_lacks] at hf
  refine lv_aload_n X.1 X.2.1 dX9_lacks_0 rfl (lv_at hl 0 rfl) ?_
  refine z_get X hK hP hiX9 0 rfl rfl 38 (by decide) (bw_in W7_15) rfl dX9_lacks_1 ?_
  refine lv_iload_n X.1 X.2.1 dX9_lacks_4 rfl (lv_at hl 1 rfl) ?_
  obtain ⟨hi2, hf⟩ := chk_e hf
  obtain ⟨v1, ev1, hf⟩ := stp_e hf
  refine z_zald X hK hP 23 rfl hi2 ev1 dX9_lacks_5 ?_
  refine lv_if_ne (tgt := 13) X.1 X.2.1 dX9_lacks_6 (by decide) (fun c3 => ?_) (fun c3 => ?_)
  · have hf := ite_f hf c3
    refine lv_aload_n X.1 X.2.1 dX9_lacks_13 rfl (lv_at hl 0 rfl) ?_
    refine z_get X hK hP hiX9 0 rfl rfl 39 (by decide) (bw_in W7_16) rfl dX9_lacks_14 ?_
    refine lv_iload_n X.1 X.2.1 dX9_lacks_17 rfl (lv_at hl 1 rfl) ?_
    obtain ⟨hi5, hf⟩ := chk_e hf
    obtain ⟨v4, ev4, hf⟩ := stp_e hf
    refine z_iald X hK hP 24 rfl hi5 ev4 dX9_lacks_18 ?_
    refine lv_iload_n X.1 X.2.1 dX9_lacks_19 rfl (lv_at hl 2 rfl) ?_
    refine lv_icmp_eq (tgt := 27) X.1 X.2.1 dX9_lacks_20 (by decide) (fun c6 => ?_) (fun c6 => ?_)
    · have hf := ite_t hf c6
      refine lv_iload_n X.1 X.2.1 dX9_lacks_27 rfl (lv_at hl 3 rfl) ?_
      refine lv_iconst (v := 0) X.1 X.2.1 dX9_lacks_28 (by decide) ?_
      refine lv_aload_n X.1 X.2.1 dX9_lacks_29 rfl (lv_at hl 0 rfl) ?_
      refine z_get X hK hP hiX9 0 rfl rfl 40 (by decide) (bw_in W7_17) rfl dX9_lacks_30 ?_
      refine lv_iload_n X.1 X.2.1 dX9_lacks_33 rfl (lv_at hl 1 rfl) ?_
      obtain ⟨hi8, hf⟩ := chk_e hf
      obtain ⟨v7, ev7, hf⟩ := stp_e hf
      refine z_iald X hK hP 25 rfl hi8 ev7 dX9_lacks_34 ?_
      refine lv_iconst (v := 1) X.1 X.2.1 dX9_lacks_35 (by decide) ?_
      refine lv_isub X.1 X.2.1 dX9_lacks_36 ?_
      obtain ⟨r9, hc10, hf⟩ := bd1_e hf
      refine z_S (n := 3) (As := [.int x3, .int 0, .int (v7 - 1)]) (rest := []) X hK hN (kX9_in l D K _ x3 0 (v7 - 1) r9 hc10) (bw_S W8_17 W8_18 W1_5 W8_19) rfl ⟨rfl, rfl⟩ (by decide +kernel) rfl ⟨Nat.le_of_ble_eq_true rfl, Nat.le_of_ble_eq_true rfl⟩ (fun _ _ h => by simp at h) ⟨fun _ _ _ _ h => by simp at h, fun _ _ h => by simp at h⟩ (zj_none hP hD hS hA) hS hl.1 rfl (Nat.le_of_ble_eq_true rfl) dX9_lacks_37 ⟨Nat.zero_le _, Nat.zero_le _⟩ rfl (fun H locs hP hD hS => ?_)
      refine lv_if_eq (tgt := 47) X.1 X.2.1 dX9_lacks_40 (by decide) (fun c11 => ?_) (fun c11 => ?_)
      · have hf := ite_t hf c11
        refine lv_iconst (v := 2) X.1 X.2.1 dX9_lacks_47 (by decide) ?_
        obtain rfl := z_inj1 hf
        exact z_iret X hr hlk hP hD hS dX9_lacks_48
      · have hf := ite_f hf c11
        refine lv_iconst (v := 0) X.1 X.2.1 dX9_lacks_43 (by decide) ?_
        refine lv_goto (tgt := 48) X.1 X.2.1 dX9_lacks_44 (by decide) ?_
        obtain rfl := z_inj1 hf
        exact z_iret X hr hlk hP hD hS dX9_lacks_48
    · have hf := ite_f hf c6
      refine lv_iconst (v := 3) X.1 X.2.1 dX9_lacks_23 (by decide) ?_
      refine lv_goto (tgt := 48) X.1 X.2.1 dX9_lacks_24 (by decide) ?_
      obtain rfl := z_inj1 hf
      exact z_iret X hr hlk hP hD hS dX9_lacks_48
  · have hf := ite_t hf c3
    refine lv_iconst (v := 1) X.1 X.2.1 dX9_lacks_9 (by decide) ?_
    refine lv_goto (tgt := 48) X.1 X.2.1 dX9_lacks_10 (by decide) ?_
    obtain rfl := z_inj1 hf
    exact z_iret X hr hlk hP hD hS dX9_lacks_48
abbrev rmX9_get : Room := { frames := 2, cells := 0, slots := 0, locals := 45 }
set_option maxHeartbeats 4000000 in
set_option maxRecDepth 100000 in
theorem kX9_get (l : Launch) (D : va_G) (K : Nat → ClassId) (aM : Nat → Nat) (s0 : St) (sz : Nat) (x1 : Int32) (x2 : Int32) (x3 : Int32) (q_ : Int32) (s_ : St) (hf : fX9_get s0 x1 x2 x3 = some (q_, s_)) : Met l yX9_get (bw (Cond.code yX9_get cX9_get 5 (some .int))) rmX9_get (va_Pc [.ref (aM 0), .int x1, .int x2, .int x3] (zB D K sz (wbX9 K aM s0))) (zQ (some (.int q_)) D (va_A (wbX9 K aM s0) sz) (wbX9 K aM s_)) 0 0 (va_A (wbX9 K aM s0) sz) := by
  refine z_of (cc := cX9_get) (maxL := 5) (ret := (some .int)) (own := RX9) (lv := [(0, .ref (aM 0)), (1, .int x1), (2, .int x2), (3, .int x3)]) (by decide) rfl rfl (Nat.le_of_ble_eq_true rfl) rfl ?_
  intro p e s m below meth c X hr hlk hK hN hsz hP hD hA hS hin ls hl
  generalize va_A (wbX9 K aM s0) sz = A at hD hA hS hN ⊢
  have hiX9 : ∀ w ∈ u_ws RX9 TX9 44, w ∈ (bw (Cond.code yX9_get cX9_get 5 (some .int))) := fun w h => bw_in (inlX9 w h)
  rw [fX9_get] at hf
  refine lv_iload_n X.1 X.2.1 dX9_get_0 rfl (lv_at hl 1 rfl) ?_
  obtain ⟨r1, hc2, hf⟩ := bd1_e hf
  refine z_S (n := 1) (As := [.int x1]) (rest := []) X hK hN (kX9_isSheet l D K _ x1 r1 hc2) (bw_S W32_0 W32_1 W1_5 W32_2) rfl ⟨rfl, rfl⟩ (by decide +kernel) rfl ⟨Nat.le_of_ble_eq_true rfl, Nat.le_of_ble_eq_true rfl⟩ (fun _ _ h => by simp at h) ⟨fun _ _ _ _ h => by simp at h, fun _ _ h => by simp at h⟩ (zj_none hP hD hS hA) hS hl.1 rfl (Nat.le_of_ble_eq_true rfl) dX9_get_1 ⟨Nat.zero_le _, Nat.zero_le _⟩ rfl (fun H locs hP hD hS => ?_)
  refine lv_if_eq (tgt := 16) X.1 X.2.1 dX9_get_4 (by decide) (fun c3 => ?_) (fun c3 => ?_)
  · have hf := ite_t hf c3
    refine lv_ldcw (v := -2147483648) X.1 X.2.1 X.2.2.2.1 (X.2.2.2.2 _ (bw_in W40_22)) dX9_get_16 ?_
    obtain ⟨rfl, rfl⟩ := z_inj2 hf
    exact z_iret X hr hlk hP hD hS dX9_get_19
  · have hf := ite_f hf c3
    refine lv_iload_n X.1 X.2.1 dX9_get_7 rfl (lv_at hl 2 rfl) ?_
    refine lv_iconst (v := 0) X.1 X.2.1 dX9_get_8 (by decide) ?_
    refine lv_iconst (v := 2) X.1 X.2.1 dX9_get_9 (by decide) ?_
    obtain ⟨r4, hc5, hf⟩ := bd1_e hf
    refine z_S (n := 3) (As := [.int x2, .int 0, .int 2]) (rest := []) X hK hN (kX9_in l D K _ x2 0 2 r4 hc5) (bw_S W8_17 W8_18 W1_5 W8_19) rfl ⟨rfl, rfl⟩ (by decide +kernel) rfl ⟨Nat.le_of_ble_eq_true rfl, Nat.le_of_ble_eq_true rfl⟩ (fun _ _ h => by simp at h) ⟨fun _ _ _ _ h => by simp at h, fun _ _ h => by simp at h⟩ (zj_none hP hD hS hA) hS hl.1 rfl (Nat.le_of_ble_eq_true rfl) dX9_get_10 ⟨Nat.zero_le _, Nat.zero_le _⟩ rfl (fun H locs hP hD hS => ?_)
    refine lv_if_ne (tgt := 20) X.1 X.2.1 dX9_get_13 (by decide) (fun c6 => ?_) (fun c6 => ?_)
    · have hf := ite_f hf c6
      refine lv_aload_n X.1 X.2.1 dX9_get_20 rfl (lv_at hl 0 rfl) ?_
      refine lv_iload_n X.1 X.2.1 dX9_get_21 rfl (lv_at hl 1 rfl) ?_
      refine lv_iload_n X.1 X.2.1 dX9_get_22 rfl (lv_at hl 2 rfl) ?_
      refine lv_iload_n X.1 X.2.1 dX9_get_23 rfl (lv_at hl 3 rfl) ?_
      obtain ⟨r7, hc8, hf⟩ := bd1_e hf
      refine z_V (n := 3) (As := [.int x1, .int x2, .int x3]) (rest := []) (ci := 9) (q0 := 0) X hK hN (kX9_lacks l D K aM s0 _ x1 x2 x3 r7 hc8) (bw_V W40_5 W40_6 W40_7 W1_5 W40_8) rfl ⟨rfl, rfl⟩ (by decide +kernel) rfl ⟨Nat.le_of_ble_eq_true rfl, Nat.le_of_ble_eq_true rfl⟩ hP hD rfl rfl (zj_same hD hS hA) hS hl.1 rfl (Nat.le_of_ble_eq_true rfl) dX9_get_24 ⟨Nat.zero_le _, Nat.zero_le _⟩ rfl (fun H locs hP hD hS => ?_)
      refine lv_istore (lv' := [(4, .int r7), (0, .ref (aM 0)), (1, .int x1), (2, .int x2), (3, .int x3)]) X.1 X.2.1 dX9_get_27 hl (by decide) rfl (fun ls hl => ?_)
      refine lv_iload X.1 X.2.1 dX9_get_29 (lv_at hl 0 rfl) ?_
      refine lv_if_le (tgt := 44) X.1 X.2.1 dX9_get_31 (by decide) (fun c9 => ?_) (fun c9 => ?_)
      · have hf := ite_t hf c9
        refine lv_aload_n X.1 X.2.1 dX9_get_44 rfl (lv_at hl 1 rfl) ?_
        refine z_get X hK hP hiX9 0 rfl rfl 41 (by decide) (bw_in W7_18) rfl dX9_get_45 ?_
        refine lv_bipush (v := 60) X.1 X.2.1 dX9_get_48 (by decide) ?_
        refine lv_iload_n X.1 X.2.1 dX9_get_50 rfl (lv_at hl 2 rfl) ?_
        refine lv_imul X.1 X.2.1 dX9_get_51 ?_
        refine lv_iload_n X.1 X.2.1 dX9_get_52 rfl (lv_at hl 4 rfl) ?_
        refine lv_iadd X.1 X.2.1 dX9_get_53 ?_
        obtain ⟨hi11, hf⟩ := chk_e hf
        obtain ⟨v10, ev10, hf⟩ := stp_e hf
        refine z_iald X hK hP 26 rfl hi11 ev10 dX9_get_54 ?_
        obtain ⟨rfl, rfl⟩ := z_inj2 hf
        exact z_iret X hr hlk hP hD hS dX9_get_55
      · have hf := ite_f hf c9
        refine lv_aload_n X.1 X.2.1 dX9_get_34 rfl (lv_at hl 1 rfl) ?_
        refine lv_iload X.1 X.2.1 dX9_get_35 (lv_at hl 0 rfl) ?_
        obtain ⟨s12, es12, hf⟩ := stp_e hf
        refine z_put (ws' := wbX9 K aM s12) X hK hP hD hS hiX9 tyX9_ok nmX9 0 rfl rfl 43 (by decide) (bw_in W32_7) rfl rfl rfl (Nat.le_of_ble_eq_true rfl) dX9_get_37 (by rw [es12]; rfl) (fun H locs hP hD hS => ?_)
        refine lv_ldcw (v := -2147483648) X.1 X.2.1 X.2.2.2.1 (X.2.2.2.2 _ (bw_in W40_22)) dX9_get_40 ?_
        obtain ⟨rfl, rfl⟩ := z_inj2 hf
        exact z_iret X hr hlk hP hD hS dX9_get_43
    · have hf := ite_t hf c6
      refine lv_ldcw (v := -2147483648) X.1 X.2.1 X.2.2.2.1 (X.2.2.2.2 _ (bw_in W40_22)) dX9_get_16 ?_
      obtain ⟨rfl, rfl⟩ := z_inj2 hf
      exact z_iret X hr hlk hP hD hS dX9_get_19
abbrev rmX9_keep : Room := { frames := 0, cells := 0, slots := 0, locals := 0 }
set_option maxHeartbeats 4000000 in
set_option maxRecDepth 100000 in
theorem kX9_keep (l : Launch) (D : va_G) (K : Nat → ClassId) (aM : Nat → Nat) (s0 : St) (sz : Nat) (x1 : Int32) (x2 : Int32) (x3 : Int32) (s_ : St) (hf : fX9_keep s0 x1 x2 x3 = some s_) : Met l yX9_keep (bw (Cond.code yX9_keep cX9_keep 4 none)) rmX9_keep (va_Pc [.ref (aM 0), .int x1, .int x2, .int x3] (zB D K sz (wbX9 K aM s0))) (zQ (none) D (va_A (wbX9 K aM s0) sz) (wbX9 K aM s_)) 0 0 (va_A (wbX9 K aM s0) sz) := by
  refine z_of (cc := cX9_keep) (maxL := 4) (ret := none) (own := RX9) (lv := [(0, .ref (aM 0)), (1, .int x1), (2, .int x2), (3, .int x3)]) (by decide) rfl rfl (Nat.le_of_ble_eq_true rfl) rfl ?_
  intro p e s m below meth c X hr hlk hK hN hsz hP hD hA hS hin ls hl
  generalize va_A (wbX9 K aM s0) sz = A at hD hA hS hN ⊢
  have hiX9 : ∀ w ∈ u_ws RX9 TX9 44, w ∈ (bw (Cond.code yX9_keep cX9_keep 4 none)) := fun w h => bw_in (inlX9 w h)
  rw [fX9_keep] at hf
  refine lv_aload_n X.1 X.2.1 dX9_keep_0 rfl (lv_at hl 0 rfl) ?_
  refine z_get X hK hP hiX9 0 rfl rfl 41 (by decide) (bw_in W7_18) rfl dX9_keep_1 ?_
  refine lv_bipush (v := 60) X.1 X.2.1 dX9_keep_4 (by decide) ?_
  refine lv_iload_n X.1 X.2.1 dX9_keep_6 rfl (lv_at hl 1 rfl) ?_
  refine lv_imul X.1 X.2.1 dX9_keep_7 ?_
  refine lv_iload_n X.1 X.2.1 dX9_keep_8 rfl (lv_at hl 2 rfl) ?_
  refine lv_iadd X.1 X.2.1 dX9_keep_9 ?_
  refine lv_aload_n X.1 X.2.1 dX9_keep_10 rfl (lv_at hl 0 rfl) ?_
  refine z_get X hK hP hiX9 0 rfl rfl 39 (by decide) (bw_in W7_16) rfl dX9_keep_11 ?_
  refine lv_iload_n X.1 X.2.1 dX9_keep_14 rfl (lv_at hl 1 rfl) ?_
  obtain ⟨hi2, hf⟩ := chk_e hf
  obtain ⟨v1, ev1, hf⟩ := stp_e hf
  refine z_iald X hK hP 24 rfl hi2 ev1 dX9_keep_15 ?_
  refine lv_if_ne (tgt := 24) X.1 X.2.1 dX9_keep_16 (by decide) (fun c3 => ?_) (fun c3 => ?_)
  · have hf := ite_f hf c3
    refine lv_aload_n X.1 X.2.1 dX9_keep_24 rfl (lv_at hl 0 rfl) ?_
    refine z_get X hK hP hiX9 0 rfl rfl 39 (by decide) (bw_in W7_16) rfl dX9_keep_25 ?_
    refine lv_iload_n X.1 X.2.1 dX9_keep_28 rfl (lv_at hl 1 rfl) ?_
    obtain ⟨hi5, hf⟩ := chk_e hf
    obtain ⟨v4, ev4, hf⟩ := stp_e hf
    refine z_iald X hK hP 24 rfl hi5 ev4 dX9_keep_29 ?_
    refine lv_iconst (v := 1) X.1 X.2.1 dX9_keep_30 (by decide) ?_
    refine lv_icmp_ne (tgt := 39) X.1 X.2.1 dX9_keep_31 (by decide) (fun c6 => ?_) (fun c6 => ?_)
    · have hf := ite_f hf c6
      refine lv_iload_n X.1 X.2.1 dX9_keep_39 rfl (lv_at hl 3 rfl) ?_
      obtain ⟨hi7, hf⟩ := chk_e hf
      obtain ⟨s8, es8, hf⟩ := stp_e hf
      refine z_iast (ws' := wbX9 K aM s8) X hK hP hD hS 26 rfl hi7 dX9_keep_40 (by rw [es8]; rfl) (fun H locs hP hD hS => ?_)
      obtain rfl := z_inj1 hf
      exact z_vret X hr hlk hP hD hS dX9_keep_41
    · have hf := ite_t hf c6
      refine lv_iload_n X.1 X.2.1 dX9_keep_34 rfl (lv_at hl 3 rfl) ?_
      refine lv_i2s X.1 X.2.1 dX9_keep_35 rfl ?_
      refine lv_goto (tgt := 40) X.1 X.2.1 dX9_keep_36 (by decide) ?_
      obtain ⟨hi9, hf⟩ := chk_e hf
      obtain ⟨s10, es10, hf⟩ := stp_e hf
      refine z_iast (ws' := wbX9 K aM s10) X hK hP hD hS 26 rfl hi9 dX9_keep_40 (by rw [es10]; rfl) (fun H locs hP hD hS => ?_)
      obtain rfl := z_inj1 hf
      exact z_vret X hr hlk hP hD hS dX9_keep_41
  · have hf := ite_t hf c3
    refine lv_iload_n X.1 X.2.1 dX9_keep_19 rfl (lv_at hl 3 rfl) ?_
    refine lv_i2b X.1 X.2.1 dX9_keep_20 rfl ?_
    refine lv_goto (tgt := 40) X.1 X.2.1 dX9_keep_21 (by decide) ?_
    obtain ⟨hi11, hf⟩ := chk_e hf
    obtain ⟨s12, es12, hf⟩ := stp_e hf
    refine z_iast (ws' := wbX9 K aM s12) X hK hP hD hS 26 rfl hi11 dX9_keep_40 (by rw [es12]; rfl) (fun H locs hP hD hS => ?_)
    obtain rfl := z_inj1 hf
    exact z_vret X hr hlk hP hD hS dX9_keep_41
abbrev rmX9_knows : Room := { frames := 9, cells := 0, slots := 0, locals := 205 }
set_option maxHeartbeats 4000000 in
set_option maxRecDepth 100000 in
theorem kX9_knows (l : Launch) (D : va_G) (K : Nat → ClassId) (aM : Nat → Nat) (s0 : St) (sz : Nat) (x1 : Int32) (x2 : Int32) (q_ : Int32) (s_ : St) (hf : fX9_knows s0 x1 x2 = some (q_, s_)) : Met l yX9_knows (bw (Cond.code yX9_knows cX9_knows 3 (some .int))) rmX9_knows (va_Pc [.ref (aM 0), .int x1, .int x2] (zB D K sz (wbX9 K aM s0))) (zQ (some (.int q_)) D (va_A (wbX9 K aM s0) sz) (wbX9 K aM s_)) 0 0 (va_A (wbX9 K aM s0) sz) := by
  refine z_of (cc := cX9_knows) (maxL := 3) (ret := (some .int)) (own := RX9) (lv := [(0, .ref (aM 0)), (1, .int x1), (2, .int x2)]) (by decide) rfl rfl (Nat.le_of_ble_eq_true rfl) rfl ?_
  intro p e s m below meth c X hr hlk hK hN hsz hP hD hA hS hin ls hl
  generalize va_A (wbX9 K aM s0) sz = A at hD hA hS hN ⊢
  rw [fX9_knows] at hf
  refine lv_aload_n X.1 X.2.1 dX9_knows_0 rfl (lv_at hl 0 rfl) ?_
  refine lv_iload_n X.1 X.2.1 dX9_knows_1 rfl (lv_at hl 1 rfl) ?_
  obtain ⟨r1, s2, hc3, hf⟩ := bd2_e hf
  refine z_V (n := 1) (As := [.int x1]) (rest := []) (ci := 9) (q0 := 0) X hK hN (kX9_isRider l D K aM s0 _ x1 r1 s2 hc3) (bw_V W16_9 W16_10 W16_11 W1_5 W16_12) rfl ⟨rfl, rfl⟩ (by decide +kernel) rfl ⟨Nat.le_of_ble_eq_true rfl, Nat.le_of_ble_eq_true rfl⟩ hP hD rfl rfl (zj_same hD hS hA) hS hl.1 rfl (Nat.le_of_ble_eq_true rfl) dX9_knows_2 ⟨Nat.zero_le _, Nat.zero_le _⟩ rfl (fun H locs hP hD hS => ?_)
  refine lv_if_eq (tgt := 26) X.1 X.2.1 dX9_knows_5 (by decide) (fun c4 => ?_) (fun c4 => ?_)
  · have hf := ite_t hf c4
    refine lv_bipush (v := -2) X.1 X.2.1 dX9_knows_26 (by decide) ?_
    obtain ⟨rfl, rfl⟩ := z_inj2 hf
    exact z_iret X hr hlk hP hD hS dX9_knows_28
  · have hf := ite_f hf c4
    refine lv_iload_n X.1 X.2.1 dX9_knows_8 rfl (lv_at hl 2 rfl) ?_
    refine lv_iconst (v := 0) X.1 X.2.1 dX9_knows_9 (by decide) ?_
    refine lv_iconst (v := 1) X.1 X.2.1 dX9_knows_10 (by decide) ?_
    obtain ⟨r5, hc6, hf⟩ := bd1_e hf
    refine z_S (n := 3) (As := [.int x2, .int 0, .int 1]) (rest := []) X hK hN (kX9_in l D K _ x2 0 1 r5 hc6) (bw_S W8_17 W8_18 W1_5 W8_19) rfl ⟨rfl, rfl⟩ (by decide +kernel) rfl ⟨Nat.le_of_ble_eq_true rfl, Nat.le_of_ble_eq_true rfl⟩ (fun _ _ h => by simp at h) ⟨fun _ _ _ _ h => by simp at h, fun _ _ h => by simp at h⟩ (zj_none hP hD hS hA) hS hl.1 rfl (Nat.le_of_ble_eq_true rfl) dX9_knows_11 ⟨Nat.zero_le _, Nat.zero_le _⟩ rfl (fun H locs hP hD hS => ?_)
    refine lv_if_eq (tgt := 26) X.1 X.2.1 dX9_knows_14 (by decide) (fun c7 => ?_) (fun c7 => ?_)
    · have hf := ite_t hf c7
      refine lv_bipush (v := -2) X.1 X.2.1 dX9_knows_26 (by decide) ?_
      obtain ⟨rfl, rfl⟩ := z_inj2 hf
      exact z_iret X hr hlk hP hD hS dX9_knows_28
    · have hf := ite_f hf c7
      refine lv_aload_n X.1 X.2.1 dX9_knows_17 rfl (lv_at hl 0 rfl) ?_
      refine lv_iload_n X.1 X.2.1 dX9_knows_18 rfl (lv_at hl 1 rfl) ?_
      refine lv_iload_n X.1 X.2.1 dX9_knows_19 rfl (lv_at hl 2 rfl) ?_
      obtain ⟨r8, s9, hc10, hf⟩ := bd2_e hf
      refine z_V (n := 2) (As := [.int x1, .int x2]) (rest := []) (ci := 9) (q0 := 0) X hK hN (kX9_knowsOf l D K aM s2 _ x1 x2 r8 s9 hc10) (bw_V W26_11 W26_12 W26_13 W1_5 W26_14) rfl ⟨rfl, rfl⟩ (by decide +kernel) rfl ⟨Nat.le_of_ble_eq_true rfl, Nat.le_of_ble_eq_true rfl⟩ hP hD rfl rfl (zj_same hD hS hA) hS hl.1 rfl (Nat.le_of_ble_eq_true rfl) dX9_knows_20 ⟨Nat.zero_le _, Nat.zero_le _⟩ rfl (fun H locs hP hD hS => ?_)
      refine lv_goto (tgt := 28) X.1 X.2.1 dX9_knows_23 (by decide) ?_
      obtain ⟨rfl, rfl⟩ := z_inj2 hf
      exact z_iret X hr hlk hP hD hS dX9_knows_28
abbrev rmX9_leaver : Room := { frames := 7, cells := 0, slots := 0, locals := 163 }
set_option maxHeartbeats 4000000 in
set_option maxRecDepth 100000 in
theorem kX9_leaver (l : Launch) (D : va_G) (K : Nat → ClassId) (aM : Nat → Nat) (s0 : St) (sz : Nat) (x1 : Int32) (x2 : Int32) (q_ : Int32) (s_ : St) (hf : fX9_leaver s0 x1 x2 = some (q_, s_)) : Met l yX9_leaver (bw (Cond.code yX9_leaver cX9_leaver 3 (some .int))) rmX9_leaver (va_Pc [.ref (aM 0), .int x1, .int x2] (zB D K sz (wbX9 K aM s0))) (zQ (some (.int q_)) D (va_A (wbX9 K aM s0) sz) (wbX9 K aM s_)) 0 0 (va_A (wbX9 K aM s0) sz) := by
  refine z_of (cc := cX9_leaver) (maxL := 3) (ret := (some .int)) (own := RX9) (lv := [(0, .ref (aM 0)), (1, .int x1), (2, .int x2)]) (by decide) rfl rfl (Nat.le_of_ble_eq_true rfl) rfl ?_
  intro p e s m below meth c X hr hlk hK hN hsz hP hD hA hS hin ls hl
  generalize va_A (wbX9 K aM s0) sz = A at hD hA hS hN ⊢
  have hiX9 : ∀ w ∈ u_ws RX9 TX9 44, w ∈ (bw (Cond.code yX9_leaver cX9_leaver 3 (some .int))) := fun w h => bw_in (inlX9 w h)
  rw [fX9_leaver] at hf
  refine lv_aload_n X.1 X.2.1 dX9_leaver_0 rfl (lv_at hl 0 rfl) ?_
  refine lv_iload_n X.1 X.2.1 dX9_leaver_1 rfl (lv_at hl 1 rfl) ?_
  obtain ⟨r1, s2, hc3, hf⟩ := bd2_e hf
  refine z_V (n := 1) (As := [.int x1]) (rest := []) (ci := 9) (q0 := 0) X hK hN (kX9_isLeaver l D K aM s0 _ x1 r1 s2 hc3) (bw_V W17_12 W17_13 W17_14 W1_5 W17_15) rfl ⟨rfl, rfl⟩ (by decide +kernel) rfl ⟨Nat.le_of_ble_eq_true rfl, Nat.le_of_ble_eq_true rfl⟩ hP hD rfl rfl (zj_same hD hS hA) hS hl.1 rfl (Nat.le_of_ble_eq_true rfl) dX9_leaver_2 ⟨Nat.zero_le _, Nat.zero_le _⟩ rfl (fun H locs hP hD hS => ?_)
  refine lv_if_eq (tgt := 39) X.1 X.2.1 dX9_leaver_5 (by decide) (fun c4 => ?_) (fun c4 => ?_)
  · have hf := ite_t hf c4
    refine lv_bipush (v := -2) X.1 X.2.1 dX9_leaver_39 (by decide) ?_
    obtain ⟨rfl, rfl⟩ := z_inj2 hf
    exact z_iret X hr hlk hP hD hS dX9_leaver_41
  · have hf := ite_f hf c4
    refine lv_iload_n X.1 X.2.1 dX9_leaver_8 rfl (lv_at hl 2 rfl) ?_
    refine lv_iconst (v := 0) X.1 X.2.1 dX9_leaver_9 (by decide) ?_
    refine lv_iconst (v := 1) X.1 X.2.1 dX9_leaver_10 (by decide) ?_
    obtain ⟨r5, hc6, hf⟩ := bd1_e hf
    refine z_S (n := 3) (As := [.int x2, .int 0, .int 1]) (rest := []) X hK hN (kX9_in l D K _ x2 0 1 r5 hc6) (bw_S W8_17 W8_18 W1_5 W8_19) rfl ⟨rfl, rfl⟩ (by decide +kernel) rfl ⟨Nat.le_of_ble_eq_true rfl, Nat.le_of_ble_eq_true rfl⟩ (fun _ _ h => by simp at h) ⟨fun _ _ _ _ h => by simp at h, fun _ _ h => by simp at h⟩ (zj_none hP hD hS hA) hS hl.1 rfl (Nat.le_of_ble_eq_true rfl) dX9_leaver_11 ⟨Nat.zero_le _, Nat.zero_le _⟩ rfl (fun H locs hP hD hS => ?_)
    refine lv_if_eq (tgt := 39) X.1 X.2.1 dX9_leaver_14 (by decide) (fun c7 => ?_) (fun c7 => ?_)
    · have hf := ite_t hf c7
      refine lv_bipush (v := -2) X.1 X.2.1 dX9_leaver_39 (by decide) ?_
      obtain ⟨rfl, rfl⟩ := z_inj2 hf
      exact z_iret X hr hlk hP hD hS dX9_leaver_41
    · have hf := ite_f hf c7
      refine lv_iload_n X.1 X.2.1 dX9_leaver_17 rfl (lv_at hl 2 rfl) ?_
      refine lv_if_ne (tgt := 30) X.1 X.2.1 dX9_leaver_18 (by decide) (fun c8 => ?_) (fun c8 => ?_)
      · have hf := ite_f hf c8
        refine lv_aload_n X.1 X.2.1 dX9_leaver_30 rfl (lv_at hl 0 rfl) ?_
        refine z_get X hK hP hiX9 0 rfl rfl 8 (by decide) (bw_in W6_22) rfl dX9_leaver_31 ?_
        refine lv_iload_n X.1 X.2.1 dX9_leaver_34 rfl (lv_at hl 1 rfl) ?_
        obtain ⟨hi10, hf⟩ := chk_e hf
        obtain ⟨v9, ev9, hf⟩ := stp_e hf
        refine z_iald X hK hP 7 rfl hi10 ev9 dX9_leaver_35 ?_
        refine lv_goto (tgt := 41) X.1 X.2.1 dX9_leaver_36 (by decide) ?_
        obtain ⟨rfl, rfl⟩ := z_inj2 hf
        exact z_iret X hr hlk hP hD hS dX9_leaver_41
      · have hf := ite_t hf c8
        refine lv_aload_n X.1 X.2.1 dX9_leaver_21 rfl (lv_at hl 0 rfl) ?_
        refine z_get X hK hP hiX9 0 rfl rfl 7 (by decide) (bw_in W6_21) rfl dX9_leaver_22 ?_
        refine lv_iload_n X.1 X.2.1 dX9_leaver_25 rfl (lv_at hl 1 rfl) ?_
        obtain ⟨hi12, hf⟩ := chk_e hf
        obtain ⟨v11, ev11, hf⟩ := stp_e hf
        refine z_iald X hK hP 6 rfl hi12 ev11 dX9_leaver_26 ?_
        refine lv_goto (tgt := 41) X.1 X.2.1 dX9_leaver_27 (by decide) ?_
        obtain ⟨rfl, rfl⟩ := z_inj2 hf
        exact z_iret X hr hlk hP hD hS dX9_leaver_41
abbrev rmX9_lift : Room := { frames := 9, cells := 0, slots := 0, locals := 206 }
set_option maxHeartbeats 4000000 in
set_option maxRecDepth 100000 in
theorem kX9_lift (l : Launch) (D : va_G) (K : Nat → ClassId) (aM : Nat → Nat) (s0 : St) (sz : Nat) (x1 : Int32) (x2 : Int32) (q_ : Int32) (s_ : St) (hf : fX9_lift s0 x1 x2 = some (q_, s_)) : Met l yX9_lift (bw (Cond.code yX9_lift cX9_lift 3 (some .int))) rmX9_lift (va_Pc [.ref (aM 0), .int x1, .int x2] (zB D K sz (wbX9 K aM s0))) (zQ (some (.int q_)) D (va_A (wbX9 K aM s0) sz) (wbX9 K aM s_)) 0 0 (va_A (wbX9 K aM s0) sz) := by
  refine z_of (cc := cX9_lift) (maxL := 3) (ret := (some .int)) (own := RX9) (lv := [(0, .ref (aM 0)), (1, .int x1), (2, .int x2)]) (by decide) rfl rfl (Nat.le_of_ble_eq_true rfl) rfl ?_
  intro p e s m below meth c X hr hlk hK hN hsz hP hD hA hS hin ls hl
  generalize va_A (wbX9 K aM s0) sz = A at hD hA hS hN ⊢
  rw [fX9_lift] at hf
  refine lv_iload_n X.1 X.2.1 dX9_lift_0 rfl (lv_at hl 1 rfl) ?_
  obtain ⟨r1, hc2, hf⟩ := bd1_e hf
  refine z_S (n := 1) (As := [.int x1]) (rest := []) X hK hN (kX9_isSteps l D K _ x1 r1 hc2) (bw_S W19_15 W19_16 W1_5 W19_17) rfl ⟨rfl, rfl⟩ (by decide +kernel) rfl ⟨Nat.le_of_ble_eq_true rfl, Nat.le_of_ble_eq_true rfl⟩ (fun _ _ h => by simp at h) ⟨fun _ _ _ _ h => by simp at h, fun _ _ h => by simp at h⟩ (zj_none hP hD hS hA) hS hl.1 rfl (Nat.le_of_ble_eq_true rfl) dX9_lift_1 ⟨Nat.zero_le _, Nat.zero_le _⟩ rfl (fun H locs hP hD hS => ?_)
  refine lv_if_eq (tgt := 25) X.1 X.2.1 dX9_lift_4 (by decide) (fun c3 => ?_) (fun c3 => ?_)
  · have hf := ite_t hf c3
    refine lv_bipush (v := -2) X.1 X.2.1 dX9_lift_25 (by decide) ?_
    obtain ⟨rfl, rfl⟩ := z_inj2 hf
    exact z_iret X hr hlk hP hD hS dX9_lift_27
  · have hf := ite_f hf c3
    refine lv_iload_n X.1 X.2.1 dX9_lift_7 rfl (lv_at hl 2 rfl) ?_
    refine lv_iconst (v := 0) X.1 X.2.1 dX9_lift_8 (by decide) ?_
    refine lv_iconst (v := 3) X.1 X.2.1 dX9_lift_9 (by decide) ?_
    obtain ⟨r4, hc5, hf⟩ := bd1_e hf
    refine z_S (n := 3) (As := [.int x2, .int 0, .int 3]) (rest := []) X hK hN (kX9_in l D K _ x2 0 3 r4 hc5) (bw_S W8_17 W8_18 W1_5 W8_19) rfl ⟨rfl, rfl⟩ (by decide +kernel) rfl ⟨Nat.le_of_ble_eq_true rfl, Nat.le_of_ble_eq_true rfl⟩ (fun _ _ h => by simp at h) ⟨fun _ _ _ _ h => by simp at h, fun _ _ h => by simp at h⟩ (zj_none hP hD hS hA) hS hl.1 rfl (Nat.le_of_ble_eq_true rfl) dX9_lift_10 ⟨Nat.zero_le _, Nat.zero_le _⟩ rfl (fun H locs hP hD hS => ?_)
    refine lv_if_eq (tgt := 25) X.1 X.2.1 dX9_lift_13 (by decide) (fun c6 => ?_) (fun c6 => ?_)
    · have hf := ite_t hf c6
      refine lv_bipush (v := -2) X.1 X.2.1 dX9_lift_25 (by decide) ?_
      obtain ⟨rfl, rfl⟩ := z_inj2 hf
      exact z_iret X hr hlk hP hD hS dX9_lift_27
    · have hf := ite_f hf c6
      refine lv_aload_n X.1 X.2.1 dX9_lift_16 rfl (lv_at hl 0 rfl) ?_
      refine lv_iload_n X.1 X.2.1 dX9_lift_17 rfl (lv_at hl 1 rfl) ?_
      refine lv_iload_n X.1 X.2.1 dX9_lift_18 rfl (lv_at hl 2 rfl) ?_
      obtain ⟨r7, s8, hc9, hf⟩ := bd2_e hf
      refine z_V (n := 2) (As := [.int x1, .int x2]) (rest := []) (ci := 9) (q0 := 0) X hK hN (kX9_liftOf l D K aM s0 _ x1 x2 r7 s8 hc9) (bw_V W19_18 W19_19 W19_20 W1_5 W19_21) rfl ⟨rfl, rfl⟩ (by decide +kernel) rfl ⟨Nat.le_of_ble_eq_true rfl, Nat.le_of_ble_eq_true rfl⟩ hP hD rfl rfl (zj_same hD hS hA) hS hl.1 rfl (Nat.le_of_ble_eq_true rfl) dX9_lift_19 ⟨Nat.zero_le _, Nat.zero_le _⟩ rfl (fun H locs hP hD hS => ?_)
      refine lv_goto (tgt := 27) X.1 X.2.1 dX9_lift_22 (by decide) ?_
      obtain ⟨rfl, rfl⟩ := z_inj2 hf
      exact z_iret X hr hlk hP hD hS dX9_lift_27
abbrev rmX9_lose : Room := { frames := 2, cells := 0, slots := 0, locals := 42 }
set_option maxHeartbeats 4000000 in
set_option maxRecDepth 100000 in
theorem kX9_lose (l : Launch) (D : va_G) (K : Nat → ClassId) (aM : Nat → Nat) (s0 : St) (sz : Nat) (x1 : Int32) (q_ : Int32) (s_ : St) (hf : fX9_lose s0 x1 = some (q_, s_)) : Met l yX9_lose (bw (Cond.code yX9_lose cX9_lose 2 (some .int))) rmX9_lose (va_Pc [.ref (aM 0), .int x1] (zB D K sz (wbX9 K aM s0))) (zQ (some (.int q_)) D (va_A (wbX9 K aM s0) sz) (wbX9 K aM s_)) 0 0 (va_A (wbX9 K aM s0) sz) := by
  refine z_of (cc := cX9_lose) (maxL := 2) (ret := (some .int)) (own := RX9) (lv := [(0, .ref (aM 0)), (1, .int x1)]) (by decide) rfl rfl (Nat.le_of_ble_eq_true rfl) rfl ?_
  intro p e s m below meth c X hr hlk hK hN hsz hP hD hA hS hin ls hl
  generalize va_A (wbX9 K aM s0) sz = A at hD hA hS hN ⊢
  have hiX9 : ∀ w ∈ u_ws RX9 TX9 44, w ∈ (bw (Cond.code yX9_lose cX9_lose 2 (some .int))) := fun w h => bw_in (inlX9 w h)
  rw [fX9_lose] at hf
  refine lv_iload_n X.1 X.2.1 dX9_lose_0 rfl (lv_at hl 1 rfl) ?_
  obtain ⟨r1, hc2, hf⟩ := bd1_e hf
  refine z_S (n := 1) (As := [.int x1]) (rest := []) X hK hN (kX9_isSheet l D K _ x1 r1 hc2) (bw_S W32_0 W32_1 W1_5 W32_2) rfl ⟨rfl, rfl⟩ (by decide +kernel) rfl ⟨Nat.le_of_ble_eq_true rfl, Nat.le_of_ble_eq_true rfl⟩ (fun _ _ h => by simp at h) ⟨fun _ _ _ _ h => by simp at h, fun _ _ h => by simp at h⟩ (zj_none hP hD hS hA) hS hl.1 rfl (Nat.le_of_ble_eq_true rfl) dX9_lose_1 ⟨Nat.zero_le _, Nat.zero_le _⟩ rfl (fun H locs hP hD hS => ?_)
  refine lv_if_ne (tgt := 10) X.1 X.2.1 dX9_lose_4 (by decide) (fun c3 => ?_) (fun c3 => ?_)
  · have hf := ite_f hf c3
    refine lv_aload_n X.1 X.2.1 dX9_lose_10 rfl (lv_at hl 0 rfl) ?_
    refine z_get X hK hP hiX9 0 rfl rfl 38 (by decide) (bw_in W7_15) rfl dX9_lose_11 ?_
    refine lv_iload_n X.1 X.2.1 dX9_lose_14 rfl (lv_at hl 1 rfl) ?_
    obtain ⟨hi5, hf⟩ := chk_e hf
    obtain ⟨v4, ev4, hf⟩ := stp_e hf
    refine z_zald X hK hP 23 rfl hi5 ev4 dX9_lose_15 ?_
    refine lv_if_ne (tgt := 25) X.1 X.2.1 dX9_lose_16 (by decide) (fun c6 => ?_) (fun c6 => ?_)
    · have hf := ite_f hf c6
      refine lv_aload_n X.1 X.2.1 dX9_lose_25 rfl (lv_at hl 0 rfl) ?_
      refine z_get X hK hP hiX9 0 rfl rfl 38 (by decide) (bw_in W7_15) rfl dX9_lose_26 ?_
      refine lv_iload_n X.1 X.2.1 dX9_lose_29 rfl (lv_at hl 1 rfl) ?_
      refine lv_iconst (v := 0) X.1 X.2.1 dX9_lose_30 (by decide) ?_
      obtain ⟨hi7, hf⟩ := chk_e hf
      obtain ⟨s8, es8, hf⟩ := stp_e hf
      refine z_zast (ws' := wbX9 K aM s8) X hK hP hD hS 23 rfl (by decide) hi7 dX9_lose_31 (by rw [es8]; rfl) (fun H locs hP hD hS => ?_)
      refine lv_aload_n X.1 X.2.1 dX9_lose_32 rfl (lv_at hl 0 rfl) ?_
      refine z_get X hK hP hiX9 0 rfl rfl 40 (by decide) (bw_in W7_17) rfl dX9_lose_33 ?_
      refine lv_iload_n X.1 X.2.1 dX9_lose_36 rfl (lv_at hl 1 rfl) ?_
      obtain ⟨hi10, hf⟩ := chk_e hf
      obtain ⟨v9, ev9, hf⟩ := stp_e hf
      refine z_iald X hK hP 25 rfl hi10 ev9 dX9_lose_37 ?_
      obtain ⟨rfl, rfl⟩ := z_inj2 hf
      exact z_iret X hr hlk hP hD hS dX9_lose_38
    · have hf := ite_t hf c6
      refine lv_aload_n X.1 X.2.1 dX9_lose_19 rfl (lv_at hl 0 rfl) ?_
      refine lv_iconst (v := 1) X.1 X.2.1 dX9_lose_20 (by decide) ?_
      obtain ⟨r11, s12, hc13, hf⟩ := bd2_e hf
      refine z_V (n := 1) (As := [.int 1]) (rest := []) (ci := 9) (q0 := 0) X hK hN (kX9_meets l D K aM s0 _ 1 r11 s12 hc13) (bw_V W32_3 W32_4 W32_5 W1_5 W32_6) rfl ⟨rfl, rfl⟩ (by decide +kernel) rfl ⟨Nat.le_of_ble_eq_true rfl, Nat.le_of_ble_eq_true rfl⟩ hP hD rfl rfl (zj_same hD hS hA) hS hl.1 rfl (Nat.le_of_ble_eq_true rfl) dX9_lose_21 ⟨Nat.zero_le _, Nat.zero_le _⟩ rfl (fun H locs hP hD hS => ?_)
      obtain ⟨rfl, rfl⟩ := z_inj2 hf
      exact z_iret X hr hlk hP hD hS dX9_lose_24
  · have hf := ite_t hf c3
    refine lv_bipush (v := -2) X.1 X.2.1 dX9_lose_7 (by decide) ?_
    obtain ⟨rfl, rfl⟩ := z_inj2 hf
    exact z_iret X hr hlk hP hD hS dX9_lose_9
abbrev rmX9_more : Room := { frames := 9, cells := 0, slots := 0, locals := 208 }
set_option maxHeartbeats 4000000 in
set_option maxRecDepth 100000 in
theorem kX9_more (l : Launch) (D : va_G) (K : Nat → ClassId) (aM : Nat → Nat) (s0 : St) (sz : Nat) (x1 : Int32) (q_ : Int32) (s_ : St) (hf : fX9_more s0 x1 = some (q_, s_)) : Met l yX9_more (bw (Cond.code yX9_more cX9_more 2 (some .int))) rmX9_more (va_Pc [.ref (aM 0), .int x1] (zB D K sz (wbX9 K aM s0))) (zQ (some (.int q_)) D (va_A (wbX9 K aM s0) sz) (wbX9 K aM s_)) 0 0 (va_A (wbX9 K aM s0) sz) := by
  refine z_of (cc := cX9_more) (maxL := 2) (ret := (some .int)) (own := RX9) (lv := [(0, .ref (aM 0)), (1, .int x1)]) (by decide) rfl rfl (Nat.le_of_ble_eq_true rfl) rfl ?_
  intro p e s m below meth c X hr hlk hK hN hsz hP hD hA hS hin ls hl
  generalize va_A (wbX9 K aM s0) sz = A at hD hA hS hN ⊢
  rw [fX9_more] at hf
  refine lv_iload_n X.1 X.2.1 dX9_more_0 rfl (lv_at hl 1 rfl) ?_
  refine lv_iconst (v := -1) X.1 X.2.1 dX9_more_1 (by decide) ?_
  refine lv_iconst (v := 1) X.1 X.2.1 dX9_more_2 (by decide) ?_
  obtain ⟨r1, hc2, hf⟩ := bd1_e hf
  refine z_S (n := 3) (As := [.int x1, .int ((-1)), .int 1]) (rest := []) X hK hN (kX9_in l D K _ x1 ((-1)) 1 r1 hc2) (bw_S W8_17 W8_18 W1_5 W8_19) rfl ⟨rfl, rfl⟩ (by decide +kernel) rfl ⟨Nat.le_of_ble_eq_true rfl, Nat.le_of_ble_eq_true rfl⟩ (fun _ _ h => by simp at h) ⟨fun _ _ _ _ h => by simp at h, fun _ _ h => by simp at h⟩ (zj_none hP hD hS hA) hS hl.1 rfl (Nat.le_of_ble_eq_true rfl) dX9_more_3 ⟨Nat.zero_le _, Nat.zero_le _⟩ rfl (fun H locs hP hD hS => ?_)
  refine lv_if_eq (tgt := 21) X.1 X.2.1 dX9_more_6 (by decide) (fun c3 => ?_) (fun c3 => ?_)
  · have hf := ite_t hf c3
    refine lv_bipush (v := -2) X.1 X.2.1 dX9_more_21 (by decide) ?_
    obtain ⟨rfl, rfl⟩ := z_inj2 hf
    exact z_iret X hr hlk hP hD hS dX9_more_23
  · have hf := ite_f hf c3
    refine lv_aload_n X.1 X.2.1 dX9_more_9 rfl (lv_at hl 0 rfl) ?_
    refine lv_aload_n X.1 X.2.1 dX9_more_10 rfl (lv_at hl 0 rfl) ?_
    obtain ⟨r4, s5, hc6, hf⟩ := bd2_e hf
    refine z_V (n := 0) (As := []) (rest := [.ref (aM 0)]) (ci := 9) (q0 := 0) X hK hN (kX9_moreBy l D K aM s0 _ r4 s5 hc6) (bw_V W28_10 W28_11 W28_12 W1_5 W28_13) rfl ⟨rfl, rfl⟩ (by decide +kernel) rfl ⟨Nat.le_of_ble_eq_true rfl, Nat.le_of_ble_eq_true rfl⟩ hP hD rfl rfl (zj_same hD hS hA) hS hl.1 rfl (Nat.le_of_ble_eq_true rfl) dX9_more_11 ⟨Nat.zero_le _, Nat.zero_le _⟩ rfl (fun H locs hP hD hS => ?_)
    refine lv_iload_n X.1 X.2.1 dX9_more_14 rfl (lv_at hl 1 rfl) ?_
    obtain ⟨r7, hc8, hf⟩ := bd1_e hf
    refine z_V (n := 2) (As := [.int r4, .int x1]) (rest := []) (ci := 9) (q0 := 0) X hK hN (kX9_ofRow l D K aM s5 _ r4 x1 r7 hc8) (bw_V W28_18 W28_19 W28_20 W1_5 W28_21) rfl ⟨rfl, rfl⟩ (by decide +kernel) rfl ⟨Nat.le_of_ble_eq_true rfl, Nat.le_of_ble_eq_true rfl⟩ hP hD rfl rfl (zj_same hD hS hA) hS hl.1 rfl (Nat.le_of_ble_eq_true rfl) dX9_more_15 ⟨Nat.zero_le _, Nat.zero_le _⟩ rfl (fun H locs hP hD hS => ?_)
    refine lv_goto (tgt := 23) X.1 X.2.1 dX9_more_18 (by decide) ?_
    obtain ⟨rfl, rfl⟩ := z_inj2 hf
    exact z_iret X hr hlk hP hD hS dX9_more_23
abbrev rmX9_never : Room := { frames := 8, cells := 0, slots := 0, locals := 185 }
set_option maxHeartbeats 4000000 in
set_option maxRecDepth 100000 in
theorem kX9_never (l : Launch) (D : va_G) (K : Nat → ClassId) (aM : Nat → Nat) (s0 : St) (sz : Nat)  (q_ : Int32) (s_ : St) (hf : fX9_never s0 = some (q_, s_)) : Met l yX9_never (bw (Cond.code yX9_never cX9_never 1 (some .int))) rmX9_never (va_Pc [.ref (aM 0)] (zB D K sz (wbX9 K aM s0))) (zQ (some (.int q_)) D (va_A (wbX9 K aM s0) sz) (wbX9 K aM s_)) 0 0 (va_A (wbX9 K aM s0) sz) := by
  refine z_of (cc := cX9_never) (maxL := 1) (ret := (some .int)) (own := RX9) (lv := [(0, .ref (aM 0))]) (by decide) rfl rfl (Nat.le_of_ble_eq_true rfl) rfl ?_
  intro p e s m below meth c X hr hlk hK hN hsz hP hD hA hS hin ls hl
  generalize va_A (wbX9 K aM s0) sz = A at hD hA hS hN ⊢
  rw [fX9_never] at hf
  refine lv_aload_n X.1 X.2.1 dX9_never_0 rfl (lv_at hl 0 rfl) ?_
  obtain ⟨r1, s2, hc3, hf⟩ := bd2_e hf
  refine z_V (n := 0) (As := []) (rest := []) (ci := 9) (q0 := 0) X hK hN (kX9_neverNow l D K aM s0 _ r1 s2 hc3) (bw_V W33_11 W33_12 W33_13 W1_5 W33_14) rfl ⟨rfl, rfl⟩ (by decide +kernel) rfl ⟨Nat.le_of_ble_eq_true rfl, Nat.le_of_ble_eq_true rfl⟩ hP hD rfl rfl (zj_same hD hS hA) hS hl.1 rfl (Nat.le_of_ble_eq_true rfl) dX9_never_1 ⟨Nat.zero_le _, Nat.zero_le _⟩ rfl (fun H locs hP hD hS => ?_)
  obtain ⟨rfl, rfl⟩ := z_inj2 hf
  exact z_iret X hr hlk hP hD hS dX9_never_4
abbrev rmX9_put : Room := { frames := 2, cells := 0, slots := 0, locals := 45 }
set_option maxHeartbeats 4000000 in
set_option maxRecDepth 100000 in
theorem kX9_put (l : Launch) (D : va_G) (K : Nat → ClassId) (aM : Nat → Nat) (s0 : St) (sz : Nat) (x1 : Int32) (x2 : Int32) (x3 : Int32) (x4 : Int32) (q_ : Int32) (s_ : St) (hf : fX9_put s0 x1 x2 x3 x4 = some (q_, s_)) : Met l yX9_put (bw (Cond.code yX9_put cX9_put 6 (some .int))) rmX9_put (va_Pc [.ref (aM 0), .int x1, .int x2, .int x3, .int x4] (zB D K sz (wbX9 K aM s0))) (zQ (some (.int q_)) D (va_A (wbX9 K aM s0) sz) (wbX9 K aM s_)) 0 0 (va_A (wbX9 K aM s0) sz) := by
  refine z_of (cc := cX9_put) (maxL := 6) (ret := (some .int)) (own := RX9) (lv := [(0, .ref (aM 0)), (1, .int x1), (2, .int x2), (3, .int x3), (4, .int x4)]) (by decide) rfl rfl (Nat.le_of_ble_eq_true rfl) rfl ?_
  intro p e s m below meth c X hr hlk hK hN hsz hP hD hA hS hin ls hl
  generalize va_A (wbX9 K aM s0) sz = A at hD hA hS hN ⊢
  rw [fX9_put] at hf
  refine lv_iload_n X.1 X.2.1 dX9_put_0 rfl (lv_at hl 1 rfl) ?_
  obtain ⟨r1, hc2, hf⟩ := bd1_e hf
  refine z_S (n := 1) (As := [.int x1]) (rest := []) X hK hN (kX9_isSheet l D K _ x1 r1 hc2) (bw_S W32_0 W32_1 W1_5 W32_2) rfl ⟨rfl, rfl⟩ (by decide +kernel) rfl ⟨Nat.le_of_ble_eq_true rfl, Nat.le_of_ble_eq_true rfl⟩ (fun _ _ h => by simp at h) ⟨fun _ _ _ _ h => by simp at h, fun _ _ h => by simp at h⟩ (zj_none hP hD hS hA) hS hl.1 rfl (Nat.le_of_ble_eq_true rfl) dX9_put_1 ⟨Nat.zero_le _, Nat.zero_le _⟩ rfl (fun H locs hP hD hS => ?_)
  refine lv_if_eq (tgt := 16) X.1 X.2.1 dX9_put_4 (by decide) (fun c3 => ?_) (fun c3 => ?_)
  · have hf := ite_t hf c3
    refine lv_bipush (v := -2) X.1 X.2.1 dX9_put_16 (by decide) ?_
    obtain ⟨rfl, rfl⟩ := z_inj2 hf
    exact z_iret X hr hlk hP hD hS dX9_put_18
  · have hf := ite_f hf c3
    refine lv_iload_n X.1 X.2.1 dX9_put_7 rfl (lv_at hl 2 rfl) ?_
    refine lv_iconst (v := 0) X.1 X.2.1 dX9_put_8 (by decide) ?_
    refine lv_iconst (v := 2) X.1 X.2.1 dX9_put_9 (by decide) ?_
    obtain ⟨r4, hc5, hf⟩ := bd1_e hf
    refine z_S (n := 3) (As := [.int x2, .int 0, .int 2]) (rest := []) X hK hN (kX9_in l D K _ x2 0 2 r4 hc5) (bw_S W8_17 W8_18 W1_5 W8_19) rfl ⟨rfl, rfl⟩ (by decide +kernel) rfl ⟨Nat.le_of_ble_eq_true rfl, Nat.le_of_ble_eq_true rfl⟩ (fun _ _ h => by simp at h) ⟨fun _ _ _ _ h => by simp at h, fun _ _ h => by simp at h⟩ (zj_none hP hD hS hA) hS hl.1 rfl (Nat.le_of_ble_eq_true rfl) dX9_put_10 ⟨Nat.zero_le _, Nat.zero_le _⟩ rfl (fun H locs hP hD hS => ?_)
    refine lv_if_ne (tgt := 19) X.1 X.2.1 dX9_put_13 (by decide) (fun c6 => ?_) (fun c6 => ?_)
    · have hf := ite_f hf c6
      refine lv_aload_n X.1 X.2.1 dX9_put_19 rfl (lv_at hl 0 rfl) ?_
      refine lv_iload_n X.1 X.2.1 dX9_put_20 rfl (lv_at hl 1 rfl) ?_
      refine lv_iload_n X.1 X.2.1 dX9_put_21 rfl (lv_at hl 2 rfl) ?_
      refine lv_iload_n X.1 X.2.1 dX9_put_22 rfl (lv_at hl 3 rfl) ?_
      obtain ⟨r7, hc8, hf⟩ := bd1_e hf
      refine z_V (n := 3) (As := [.int x1, .int x2, .int x3]) (rest := []) (ci := 9) (q0 := 0) X hK hN (kX9_lacks l D K aM s0 _ x1 x2 x3 r7 hc8) (bw_V W40_5 W40_6 W40_7 W1_5 W40_8) rfl ⟨rfl, rfl⟩ (by decide +kernel) rfl ⟨Nat.le_of_ble_eq_true rfl, Nat.le_of_ble_eq_true rfl⟩ hP hD rfl rfl (zj_same hD hS hA) hS hl.1 rfl (Nat.le_of_ble_eq_true rfl) dX9_put_23 ⟨Nat.zero_le _, Nat.zero_le _⟩ rfl (fun H locs hP hD hS => ?_)
      refine lv_istore (lv' := [(5, .int r7), (0, .ref (aM 0)), (1, .int x1), (2, .int x2), (3, .int x3), (4, .int x4)]) X.1 X.2.1 dX9_put_26 hl (by decide) rfl (fun ls hl => ?_)
      refine lv_iload X.1 X.2.1 dX9_put_28 (lv_at hl 0 rfl) ?_
      refine lv_if_le (tgt := 40) X.1 X.2.1 dX9_put_30 (by decide) (fun c9 => ?_) (fun c9 => ?_)
      · have hf := ite_t hf c9
        refine lv_aload_n X.1 X.2.1 dX9_put_40 rfl (lv_at hl 1 rfl) ?_
        refine lv_iload_n X.1 X.2.1 dX9_put_41 rfl (lv_at hl 2 rfl) ?_
        refine lv_iload_n X.1 X.2.1 dX9_put_42 rfl (lv_at hl 4 rfl) ?_
        refine lv_iload X.1 X.2.1 dX9_put_43 (lv_at hl 5 rfl) ?_
        obtain ⟨s10, hc11, hf⟩ := bd1_e hf
        refine z_V (n := 3) (As := [.int x1, .int x3, .int x4]) (rest := []) (ci := 9) (q0 := 0) X hK hN (kX9_keep l D K aM s0 _ x1 x3 x4 s10 hc11) (bw_V W40_9 W40_10 W40_11 W1_5 W40_12) rfl ⟨rfl, rfl⟩ (by decide +kernel) rfl ⟨Nat.le_of_ble_eq_true rfl, Nat.le_of_ble_eq_true rfl⟩ hP hD rfl rfl (zj_same hD hS hA) hS hl.1 rfl (Nat.le_of_ble_eq_true rfl) dX9_put_45 ⟨Nat.zero_le _, Nat.zero_le _⟩ rfl (fun H locs hP hD hS => ?_)
        refine lv_iconst (v := 1) X.1 X.2.1 dX9_put_48 (by decide) ?_
        obtain ⟨rfl, rfl⟩ := z_inj2 hf
        exact z_iret X hr hlk hP hD hS dX9_put_49
      · have hf := ite_f hf c9
        refine lv_aload_n X.1 X.2.1 dX9_put_33 rfl (lv_at hl 1 rfl) ?_
        refine lv_iload X.1 X.2.1 dX9_put_34 (lv_at hl 0 rfl) ?_
        obtain ⟨r12, s13, hc14, hf⟩ := bd2_e hf
        refine z_V (n := 1) (As := [.int r7]) (rest := []) (ci := 9) (q0 := 0) X hK hN (kX9_meets l D K aM s0 _ r7 r12 s13 hc14) (bw_V W32_3 W32_4 W32_5 W1_5 W32_6) rfl ⟨rfl, rfl⟩ (by decide +kernel) rfl ⟨Nat.le_of_ble_eq_true rfl, Nat.le_of_ble_eq_true rfl⟩ hP hD rfl rfl (zj_same hD hS hA) hS hl.1 rfl (Nat.le_of_ble_eq_true rfl) dX9_put_36 ⟨Nat.zero_le _, Nat.zero_le _⟩ rfl (fun H locs hP hD hS => ?_)
        obtain ⟨rfl, rfl⟩ := z_inj2 hf
        exact z_iret X hr hlk hP hD hS dX9_put_39
    · have hf := ite_t hf c6
      refine lv_bipush (v := -2) X.1 X.2.1 dX9_put_16 (by decide) ?_
      obtain ⟨rfl, rfl⟩ := z_inj2 hf
      exact z_iret X hr hlk hP hD hS dX9_put_18
abbrev rmX9_seen : Room := { frames := 2, cells := 0, slots := 0, locals := 42 }
set_option maxHeartbeats 4000000 in
set_option maxRecDepth 100000 in
theorem kX9_seen (l : Launch) (D : va_G) (K : Nat → ClassId) (aM : Nat → Nat) (s0 : St) (sz : Nat) (x1 : Int32) (x2 : Int32) (q_ : Int32) (s_ : St) (hf : fX9_seen s0 x1 x2 = some (q_, s_)) : Met l yX9_seen (bw (Cond.code yX9_seen cX9_seen 3 (some .int))) rmX9_seen (va_Pc [.ref (aM 0), .int x1, .int x2] (zB D K sz (wbX9 K aM s0))) (zQ (some (.int q_)) D (va_A (wbX9 K aM s0) sz) (wbX9 K aM s_)) 0 0 (va_A (wbX9 K aM s0) sz) := by
  refine z_of (cc := cX9_seen) (maxL := 3) (ret := (some .int)) (own := RX9) (lv := [(0, .ref (aM 0)), (1, .int x1), (2, .int x2)]) (by decide) rfl rfl (Nat.le_of_ble_eq_true rfl) rfl ?_
  intro p e s m below meth c X hr hlk hK hN hsz hP hD hA hS hin ls hl
  generalize va_A (wbX9 K aM s0) sz = A at hD hA hS hN ⊢
  have hiX9 : ∀ w ∈ u_ws RX9 TX9 44, w ∈ (bw (Cond.code yX9_seen cX9_seen 3 (some .int))) := fun w h => bw_in (inlX9 w h)
  rw [fX9_seen] at hf
  refine lv_iload_n X.1 X.2.1 dX9_seen_0 rfl (lv_at hl 1 rfl) ?_
  obtain ⟨r1, hc2, hf⟩ := bd1_e hf
  refine z_S (n := 1) (As := [.int x1]) (rest := []) X hK hN (kX9_isSteps l D K _ x1 r1 hc2) (bw_S W19_15 W19_16 W1_5 W19_17) rfl ⟨rfl, rfl⟩ (by decide +kernel) rfl ⟨Nat.le_of_ble_eq_true rfl, Nat.le_of_ble_eq_true rfl⟩ (fun _ _ h => by simp at h) ⟨fun _ _ _ _ h => by simp at h, fun _ _ h => by simp at h⟩ (zj_none hP hD hS hA) hS hl.1 rfl (Nat.le_of_ble_eq_true rfl) dX9_seen_1 ⟨Nat.zero_le _, Nat.zero_le _⟩ rfl (fun H locs hP hD hS => ?_)
  refine lv_if_eq (tgt := 18) X.1 X.2.1 dX9_seen_4 (by decide) (fun c3 => ?_) (fun c3 => ?_)
  · have hf := ite_t hf c3
    refine lv_bipush (v := -2) X.1 X.2.1 dX9_seen_18 (by decide) ?_
    obtain ⟨rfl, rfl⟩ := z_inj2 hf
    exact z_iret X hr hlk hP hD hS dX9_seen_20
  · have hf := ite_f hf c3
    refine lv_iload_n X.1 X.2.1 dX9_seen_7 rfl (lv_at hl 2 rfl) ?_
    refine lv_iconst (v := 0) X.1 X.2.1 dX9_seen_8 (by decide) ?_
    refine lv_sipush (v := 999) X.1 X.2.1 dX9_seen_9 (by decide) ?_
    obtain ⟨r4, hc5, hf⟩ := bd1_e hf
    refine z_S (n := 3) (As := [.int x2, .int 0, .int 999]) (rest := []) X hK hN (kX9_in l D K _ x2 0 999 r4 hc5) (bw_S W8_17 W8_18 W1_5 W8_19) rfl ⟨rfl, rfl⟩ (by decide +kernel) rfl ⟨Nat.le_of_ble_eq_true rfl, Nat.le_of_ble_eq_true rfl⟩ (fun _ _ h => by simp at h) ⟨fun _ _ _ _ h => by simp at h, fun _ _ h => by simp at h⟩ (zj_none hP hD hS hA) hS hl.1 rfl (Nat.le_of_ble_eq_true rfl) dX9_seen_12 ⟨Nat.zero_le _, Nat.zero_le _⟩ rfl (fun H locs hP hD hS => ?_)
    refine lv_if_ne (tgt := 21) X.1 X.2.1 dX9_seen_15 (by decide) (fun c6 => ?_) (fun c6 => ?_)
    · have hf := ite_f hf c6
      refine lv_aload_n X.1 X.2.1 dX9_seen_21 rfl (lv_at hl 0 rfl) ?_
      refine z_get X hK hP hiX9 0 rfl rfl 34 (by decide) (bw_in W30_21) rfl dX9_seen_22 ?_
      refine lv_bipush (v := 8) X.1 X.2.1 dX9_seen_25 (by decide) ?_
      refine lv_icmp_ne (tgt := 33) X.1 X.2.1 dX9_seen_27 (by decide) (fun c7 => ?_) (fun c7 => ?_)
      · have hf := ite_f hf c7
        refine lv_aload_n X.1 X.2.1 dX9_seen_33 rfl (lv_at hl 0 rfl) ?_
        refine z_get X hK hP hiX9 0 rfl rfl 35 (by decide) (bw_in W7_11) rfl dX9_seen_34 ?_
        refine lv_aload_n X.1 X.2.1 dX9_seen_37 rfl (lv_at hl 0 rfl) ?_
        refine z_get X hK hP hiX9 0 rfl rfl 34 (by decide) (bw_in W30_21) rfl dX9_seen_38 ?_
        refine lv_iload_n X.1 X.2.1 dX9_seen_41 rfl (lv_at hl 1 rfl) ?_
        obtain ⟨hi8, hf⟩ := chk_e hf
        obtain ⟨s9, es9, hf⟩ := stp_e hf
        refine z_iast (ws' := wbX9 K aM s9) X hK hP hD hS 20 rfl hi8 dX9_seen_42 (by rw [es9]; rfl) (fun H locs hP hD hS => ?_)
        refine lv_aload_n X.1 X.2.1 dX9_seen_43 rfl (lv_at hl 0 rfl) ?_
        refine z_get X hK hP hiX9 0 rfl rfl 36 (by decide) (bw_in W7_12) rfl dX9_seen_44 ?_
        refine lv_aload_n X.1 X.2.1 dX9_seen_47 rfl (lv_at hl 0 rfl) ?_
        refine z_get X hK hP hiX9 0 rfl rfl 34 (by decide) (bw_in W30_21) rfl dX9_seen_48 ?_
        refine lv_iload_n X.1 X.2.1 dX9_seen_51 rfl (lv_at hl 2 rfl) ?_
        obtain ⟨hi10, hf⟩ := chk_e hf
        obtain ⟨s11, es11, hf⟩ := stp_e hf
        refine z_iast (ws' := wbX9 K aM s11) X hK hP hD hS 21 rfl hi10 dX9_seen_52 (by rw [es11]; rfl) (fun H locs hP hD hS => ?_)
        refine lv_aload_n X.1 X.2.1 dX9_seen_53 rfl (lv_at hl 0 rfl) ?_
        refine lv_dup X.1 X.2.1 dX9_seen_54 rfl ?_
        refine z_get X hK hP hiX9 0 rfl rfl 34 (by decide) (bw_in W30_21) rfl dX9_seen_55 ?_
        refine lv_iconst (v := 1) X.1 X.2.1 dX9_seen_58 (by decide) ?_
        refine lv_iadd X.1 X.2.1 dX9_seen_59 ?_
        obtain ⟨s12, es12, hf⟩ := stp_e hf
        refine z_put (ws' := wbX9 K aM s12) X hK hP hD hS hiX9 tyX9_ok nmX9 0 rfl rfl 34 (by decide) (bw_in W30_21) rfl rfl rfl (Nat.le_of_ble_eq_true rfl) dX9_seen_60 (by rw [es12]; rfl) (fun H locs hP hD hS => ?_)
        refine lv_aload_n X.1 X.2.1 dX9_seen_63 rfl (lv_at hl 0 rfl) ?_
        refine z_get X hK hP hiX9 0 rfl rfl 34 (by decide) (bw_in W30_21) rfl dX9_seen_64 ?_
        obtain ⟨rfl, rfl⟩ := z_inj2 hf
        exact z_iret X hr hlk hP hD hS dX9_seen_67
      · have hf := ite_t hf c7
        refine lv_bipush (v := -4) X.1 X.2.1 dX9_seen_30 (by decide) ?_
        obtain ⟨rfl, rfl⟩ := z_inj2 hf
        exact z_iret X hr hlk hP hD hS dX9_seen_32
    · have hf := ite_t hf c6
      refine lv_bipush (v := -2) X.1 X.2.1 dX9_seen_18 (by decide) ?_
      obtain ⟨rfl, rfl⟩ := z_inj2 hf
      exact z_iret X hr hlk hP hD hS dX9_seen_20
abbrev rmX9_read : Room := { frames := 3, cells := 0, slots := 0, locals := 64 }
set_option maxHeartbeats 4000000 in
set_option maxRecDepth 100000 in
theorem kX9_read (l : Launch) (D : va_G) (K : Nat → ClassId) (aM : Nat → Nat) (s0 : St) (sz : Nat) (x1 : Int32) (q_ : Int32) (s_ : St) (hf : fX9_read s0 x1 = some (q_, s_)) : Met l yX9_read (bw (Cond.code yX9_read cX9_read 3 (some .int))) rmX9_read (va_Pc [.ref (aM 0), .int x1] (zB D K sz (wbX9 K aM s0))) (zQ (some (.int q_)) D (va_A (wbX9 K aM s0) sz) (wbX9 K aM s_)) 0 0 (va_A (wbX9 K aM s0) sz) := by
  refine z_of (cc := cX9_read) (maxL := 3) (ret := (some .int)) (own := RX9) (lv := [(0, .ref (aM 0)), (1, .int x1)]) (by decide) rfl rfl (Nat.le_of_ble_eq_true rfl) rfl ?_
  intro p e s m below meth c X hr hlk hK hN hsz hP hD hA hS hin ls hl
  generalize va_A (wbX9 K aM s0) sz = A at hD hA hS hN ⊢
  have hiX9 : ∀ w ∈ u_ws RX9 TX9 44, w ∈ (bw (Cond.code yX9_read cX9_read 3 (some .int))) := fun w h => bw_in (inlX9 w h)
  have L27_0 : ∀ (n : Nat), ∀ (n27_0 : Int32) (n27_1 : Int32) (q27_M : St), fX9_read_27 n n27_0 n27_1 q27_M = some ((q_, s_)) → ∀ (H : Heap) (locs : List Loc), va_P D vwCl (wbX9 K aM q27_M) H → va_D A (wbX9 K aM q27_M) → va_S A s.heap H locs → ∀ (ls : Array Slot), lv_has ls 3 [(0, .ref (aM 0)), (1, .int n27_0), (2, .int n27_1)] → W p l e rmX9_read s m ([.ref (aM 0), .int x1] : List Value).toArray below meth c H locs 0 0 (MQ below (zQ (some (.int q_)) D A (wbX9 K aM s_)) ([.ref (aM 0), .int x1] : List Value).toArray s 0 0 A) (F0 m 27 ls []) := by
    intro n
    induction n with
    | zero =>
      intro n27_0 n27_1 q27_M hf
      rw [fX9_read_27] at hf
      cases hf
    | succ n ih =>
      intro n27_0 n27_1 q27_M hf H locs hP hD hS ls hl
      rw [fX9_read_27] at hf
      refine lv_iconst (v := 2) X.1 X.2.1 dX9_read_27 (by decide) ?_
      refine lv_iload_n X.1 X.2.1 dX9_read_28 rfl (lv_at hl 2 rfl) ?_
      refine lv_imul X.1 X.2.1 dX9_read_29 ?_
      refine lv_iconst (v := 1) X.1 X.2.1 dX9_read_30 (by decide) ?_
      refine lv_iadd X.1 X.2.1 dX9_read_31 ?_
      refine lv_aload_n X.1 X.2.1 dX9_read_32 rfl (lv_at hl 0 rfl) ?_
      refine z_get X hK hP hiX9 0 rfl rfl 40 (by decide) (bw_in W7_17) rfl dX9_read_33 ?_
      refine lv_iload_n X.1 X.2.1 dX9_read_36 rfl (lv_at hl 1 rfl) ?_
      obtain ⟨hi8, hf⟩ := chk_e hf
      obtain ⟨v7, ev7, hf⟩ := stp_e hf
      refine z_iald X hK hP 25 rfl hi8 ev7 dX9_read_37 ?_
      refine lv_icmp_ge (tgt := 82) X.1 X.2.1 dX9_read_38 (by decide) (fun c9 => ?_) (fun c9 => ?_)
      · have hf := ite_t hf c9
        refine lv_iload_n X.1 X.2.1 dX9_read_82 rfl (lv_at hl 2 rfl) ?_
        obtain ⟨rfl, rfl⟩ := z_inj2 hf
        exact z_iret X hr hlk hP hD hS dX9_read_83
      · have hf := ite_f hf c9
        refine lv_aload_n X.1 X.2.1 dX9_read_41 rfl (lv_at hl 0 rfl) ?_
        refine lv_aload_n X.1 X.2.1 dX9_read_42 rfl (lv_at hl 0 rfl) ?_
        refine z_get X hK hP hiX9 0 rfl rfl 41 (by decide) (bw_in W7_18) rfl dX9_read_43 ?_
        refine lv_bipush (v := 60) X.1 X.2.1 dX9_read_46 (by decide) ?_
        refine lv_iload_n X.1 X.2.1 dX9_read_48 rfl (lv_at hl 1 rfl) ?_
        refine lv_imul X.1 X.2.1 dX9_read_49 ?_
        refine lv_iconst (v := 2) X.1 X.2.1 dX9_read_50 (by decide) ?_
        refine lv_iload_n X.1 X.2.1 dX9_read_51 rfl (lv_at hl 2 rfl) ?_
        refine lv_imul X.1 X.2.1 dX9_read_52 ?_
        refine lv_iadd X.1 X.2.1 dX9_read_53 ?_
        obtain ⟨hi11, hf⟩ := chk_e hf
        obtain ⟨v10, ev10, hf⟩ := stp_e hf
        refine z_iald X hK hP 26 rfl hi11 ev10 dX9_read_54 ?_
        refine lv_aload_n X.1 X.2.1 dX9_read_55 rfl (lv_at hl 0 rfl) ?_
        refine z_get X hK hP hiX9 0 rfl rfl 41 (by decide) (bw_in W7_18) rfl dX9_read_56 ?_
        refine lv_bipush (v := 60) X.1 X.2.1 dX9_read_59 (by decide) ?_
        refine lv_iload_n X.1 X.2.1 dX9_read_61 rfl (lv_at hl 1 rfl) ?_
        refine lv_imul X.1 X.2.1 dX9_read_62 ?_
        refine lv_iconst (v := 2) X.1 X.2.1 dX9_read_63 (by decide) ?_
        refine lv_iload_n X.1 X.2.1 dX9_read_64 rfl (lv_at hl 2 rfl) ?_
        refine lv_imul X.1 X.2.1 dX9_read_65 ?_
        refine lv_iadd X.1 X.2.1 dX9_read_66 ?_
        refine lv_iconst (v := 1) X.1 X.2.1 dX9_read_67 (by decide) ?_
        refine lv_iadd X.1 X.2.1 dX9_read_68 ?_
        obtain ⟨hi13, hf⟩ := chk_e hf
        obtain ⟨v12, ev12, hf⟩ := stp_e hf
        refine z_iald X hK hP 26 rfl hi13 ev12 dX9_read_69 ?_
        obtain ⟨r14, s15, hc16, hf⟩ := bd2_e hf
        refine z_V (n := 2) (As := [.int v10, .int v12]) (rest := []) (ci := 9) (q0 := 0) X hK hN (kX9_seen l D K aM q27_M _ v10 v12 r14 s15 hc16) (bw_V W32_8 W30_18 W30_19 W1_5 W30_20) rfl ⟨rfl, rfl⟩ (by decide +kernel) rfl ⟨Nat.le_of_ble_eq_true rfl, Nat.le_of_ble_eq_true rfl⟩ hP hD rfl rfl (zj_same hD hS hA) hS hl.1 rfl (Nat.le_of_ble_eq_true rfl) dX9_read_70 ⟨Nat.zero_le _, Nat.zero_le _⟩ rfl (fun H locs hP hD hS => ?_)
        refine lv_if_le (tgt := 82) X.1 X.2.1 dX9_read_73 (by decide) (fun c17 => ?_) (fun c17 => ?_)
        · have hf := ite_t hf c17
          refine lv_iload_n X.1 X.2.1 dX9_read_82 rfl (lv_at hl 2 rfl) ?_
          obtain ⟨rfl, rfl⟩ := z_inj2 hf
          exact z_iret X hr hlk hP hD hS dX9_read_83
        · have hf := ite_f hf c17
          obtain ⟨w18, ew18, hf⟩ := stp_e hf
          refine lv_iinc (v := w18) (lv' := [(2, .int w18), (0, .ref (aM 0)), (1, .int n27_0)]) X.1 X.2.1 dX9_read_76 hl (k := 2) rfl (by rw [ew18]; rfl) (by decide) rfl (fun ls hl => ?_)
          refine lv_goto (tgt := 27) X.1 X.2.1 dX9_read_79 (by decide) ?_
          exact ih _ _ _ hf _ _ hP hD hS _ (lv_sub hl [1, 2, 0] rfl)
  rw [fX9_read] at hf
  refine lv_iload_n X.1 X.2.1 dX9_read_0 rfl (lv_at hl 1 rfl) ?_
  obtain ⟨r1, hc2, hf⟩ := bd1_e hf
  refine z_S (n := 1) (As := [.int x1]) (rest := []) X hK hN (kX9_isSheet l D K _ x1 r1 hc2) (bw_S W32_0 W32_1 W1_5 W32_2) rfl ⟨rfl, rfl⟩ (by decide +kernel) rfl ⟨Nat.le_of_ble_eq_true rfl, Nat.le_of_ble_eq_true rfl⟩ (fun _ _ h => by simp at h) ⟨fun _ _ _ _ h => by simp at h, fun _ _ h => by simp at h⟩ (zj_none hP hD hS hA) hS hl.1 rfl (Nat.le_of_ble_eq_true rfl) dX9_read_1 ⟨Nat.zero_le _, Nat.zero_le _⟩ rfl (fun H locs hP hD hS => ?_)
  refine lv_if_ne (tgt := 10) X.1 X.2.1 dX9_read_4 (by decide) (fun c3 => ?_) (fun c3 => ?_)
  · have hf := ite_f hf c3
    refine lv_aload_n X.1 X.2.1 dX9_read_10 rfl (lv_at hl 0 rfl) ?_
    refine z_get X hK hP hiX9 0 rfl rfl 38 (by decide) (bw_in W7_15) rfl dX9_read_11 ?_
    refine lv_iload_n X.1 X.2.1 dX9_read_14 rfl (lv_at hl 1 rfl) ?_
    obtain ⟨hi5, hf⟩ := chk_e hf
    obtain ⟨v4, ev4, hf⟩ := stp_e hf
    refine z_zald X hK hP 23 rfl hi5 ev4 dX9_read_15 ?_
    refine lv_if_ne (tgt := 25) X.1 X.2.1 dX9_read_16 (by decide) (fun c6 => ?_) (fun c6 => ?_)
    · have hf := ite_f hf c6
      refine lv_iconst (v := 0) X.1 X.2.1 dX9_read_25 (by decide) ?_
      refine lv_istore_n (lv' := [(2, .int 0), (0, .ref (aM 0)), (1, .int x1)]) X.1 X.2.1 dX9_read_26 rfl hl (by decide) rfl (fun ls hl => ?_)
      exact L27_0  _ _ _ _ hf _ _ hP hD hS _ (lv_sub hl [1, 2, 0] rfl)
    · have hf := ite_t hf c6
      refine lv_aload_n X.1 X.2.1 dX9_read_19 rfl (lv_at hl 0 rfl) ?_
      refine lv_iconst (v := 1) X.1 X.2.1 dX9_read_20 (by decide) ?_
      obtain ⟨r19, s20, hc21, hf⟩ := bd2_e hf
      refine z_V (n := 1) (As := [.int 1]) (rest := []) (ci := 9) (q0 := 0) X hK hN (kX9_meets l D K aM s0 _ 1 r19 s20 hc21) (bw_V W32_3 W32_4 W32_5 W1_5 W32_6) rfl ⟨rfl, rfl⟩ (by decide +kernel) rfl ⟨Nat.le_of_ble_eq_true rfl, Nat.le_of_ble_eq_true rfl⟩ hP hD rfl rfl (zj_same hD hS hA) hS hl.1 rfl (Nat.le_of_ble_eq_true rfl) dX9_read_21 ⟨Nat.zero_le _, Nat.zero_le _⟩ rfl (fun H locs hP hD hS => ?_)
      obtain ⟨rfl, rfl⟩ := z_inj2 hf
      exact z_iret X hr hlk hP hD hS dX9_read_24
  · have hf := ite_t hf c3
    refine lv_bipush (v := -2) X.1 X.2.1 dX9_read_7 (by decide) ?_
    obtain ⟨rfl, rfl⟩ := z_inj2 hf
    exact z_iret X hr hlk hP hD hS dX9_read_9
abbrev rmX9_rider : Room := { frames := 7, cells := 0, slots := 0, locals := 163 }
set_option maxHeartbeats 4000000 in
set_option maxRecDepth 100000 in
theorem kX9_rider (l : Launch) (D : va_G) (K : Nat → ClassId) (aM : Nat → Nat) (s0 : St) (sz : Nat) (x1 : Int32) (x2 : Int32) (q_ : Int32) (s_ : St) (hf : fX9_rider s0 x1 x2 = some (q_, s_)) : Met l yX9_rider (bw (Cond.code yX9_rider cX9_rider 3 (some .int))) rmX9_rider (va_Pc [.ref (aM 0), .int x1, .int x2] (zB D K sz (wbX9 K aM s0))) (zQ (some (.int q_)) D (va_A (wbX9 K aM s0) sz) (wbX9 K aM s_)) 0 0 (va_A (wbX9 K aM s0) sz) := by
  refine z_of (cc := cX9_rider) (maxL := 3) (ret := (some .int)) (own := RX9) (lv := [(0, .ref (aM 0)), (1, .int x1), (2, .int x2)]) (by decide) rfl rfl (Nat.le_of_ble_eq_true rfl) rfl ?_
  intro p e s m below meth c X hr hlk hK hN hsz hP hD hA hS hin ls hl
  generalize va_A (wbX9 K aM s0) sz = A at hD hA hS hN ⊢
  rw [fX9_rider] at hf
  refine lv_aload_n X.1 X.2.1 dX9_rider_0 rfl (lv_at hl 0 rfl) ?_
  refine lv_iload_n X.1 X.2.1 dX9_rider_1 rfl (lv_at hl 1 rfl) ?_
  obtain ⟨r1, s2, hc3, hf⟩ := bd2_e hf
  refine z_V (n := 1) (As := [.int x1]) (rest := []) (ci := 9) (q0 := 0) X hK hN (kX9_isRider l D K aM s0 _ x1 r1 s2 hc3) (bw_V W16_9 W16_10 W16_11 W1_5 W16_12) rfl ⟨rfl, rfl⟩ (by decide +kernel) rfl ⟨Nat.le_of_ble_eq_true rfl, Nat.le_of_ble_eq_true rfl⟩ hP hD rfl rfl (zj_same hD hS hA) hS hl.1 rfl (Nat.le_of_ble_eq_true rfl) dX9_rider_2 ⟨Nat.zero_le _, Nat.zero_le _⟩ rfl (fun H locs hP hD hS => ?_)
  refine lv_if_eq (tgt := 26) X.1 X.2.1 dX9_rider_5 (by decide) (fun c4 => ?_) (fun c4 => ?_)
  · have hf := ite_t hf c4
    refine lv_bipush (v := -2) X.1 X.2.1 dX9_rider_26 (by decide) ?_
    obtain ⟨rfl, rfl⟩ := z_inj2 hf
    exact z_iret X hr hlk hP hD hS dX9_rider_28
  · have hf := ite_f hf c4
    refine lv_iload_n X.1 X.2.1 dX9_rider_8 rfl (lv_at hl 2 rfl) ?_
    refine lv_iconst (v := 0) X.1 X.2.1 dX9_rider_9 (by decide) ?_
    refine lv_iconst (v := 2) X.1 X.2.1 dX9_rider_10 (by decide) ?_
    obtain ⟨r5, hc6, hf⟩ := bd1_e hf
    refine z_S (n := 3) (As := [.int x2, .int 0, .int 2]) (rest := []) X hK hN (kX9_in l D K _ x2 0 2 r5 hc6) (bw_S W8_17 W8_18 W1_5 W8_19) rfl ⟨rfl, rfl⟩ (by decide +kernel) rfl ⟨Nat.le_of_ble_eq_true rfl, Nat.le_of_ble_eq_true rfl⟩ (fun _ _ h => by simp at h) ⟨fun _ _ _ _ h => by simp at h, fun _ _ h => by simp at h⟩ (zj_none hP hD hS hA) hS hl.1 rfl (Nat.le_of_ble_eq_true rfl) dX9_rider_11 ⟨Nat.zero_le _, Nat.zero_le _⟩ rfl (fun H locs hP hD hS => ?_)
    refine lv_if_eq (tgt := 26) X.1 X.2.1 dX9_rider_14 (by decide) (fun c7 => ?_) (fun c7 => ?_)
    · have hf := ite_t hf c7
      refine lv_bipush (v := -2) X.1 X.2.1 dX9_rider_26 (by decide) ?_
      obtain ⟨rfl, rfl⟩ := z_inj2 hf
      exact z_iret X hr hlk hP hD hS dX9_rider_28
    · have hf := ite_f hf c7
      refine lv_aload_n X.1 X.2.1 dX9_rider_17 rfl (lv_at hl 0 rfl) ?_
      refine lv_iload_n X.1 X.2.1 dX9_rider_18 rfl (lv_at hl 1 rfl) ?_
      refine lv_iload_n X.1 X.2.1 dX9_rider_19 rfl (lv_at hl 2 rfl) ?_
      obtain ⟨r8, hc9, hf⟩ := bd1_e hf
      refine z_V (n := 2) (As := [.int x1, .int x2]) (rest := []) (ci := 9) (q0 := 0) X hK hN (kX9_riderOf l D K aM s2 _ x1 x2 r8 hc9) (bw_V W16_17 W16_18 W16_19 W1_5 W16_20) rfl ⟨rfl, rfl⟩ (by decide +kernel) rfl ⟨Nat.le_of_ble_eq_true rfl, Nat.le_of_ble_eq_true rfl⟩ hP hD rfl rfl (zj_same hD hS hA) hS hl.1 rfl (Nat.le_of_ble_eq_true rfl) dX9_rider_20 ⟨Nat.zero_le _, Nat.zero_le _⟩ rfl (fun H locs hP hD hS => ?_)
      refine lv_goto (tgt := 28) X.1 X.2.1 dX9_rider_23 (by decide) ?_
      obtain ⟨rfl, rfl⟩ := z_inj2 hf
      exact z_iret X hr hlk hP hD hS dX9_rider_28
abbrev rmX9_rides : Room := { frames := 9, cells := 0, slots := 0, locals := 205 }
set_option maxHeartbeats 4000000 in
set_option maxRecDepth 100000 in
theorem kX9_rides (l : Launch) (D : va_G) (K : Nat → ClassId) (aM : Nat → Nat) (s0 : St) (sz : Nat) (x1 : Int32) (x2 : Int32) (q_ : Int32) (s_ : St) (hf : fX9_rides s0 x1 x2 = some (q_, s_)) : Met l yX9_rides (bw (Cond.code yX9_rides cX9_rides 3 (some .int))) rmX9_rides (va_Pc [.ref (aM 0), .int x1, .int x2] (zB D K sz (wbX9 K aM s0))) (zQ (some (.int q_)) D (va_A (wbX9 K aM s0) sz) (wbX9 K aM s_)) 0 0 (va_A (wbX9 K aM s0) sz) := by
  refine z_of (cc := cX9_rides) (maxL := 3) (ret := (some .int)) (own := RX9) (lv := [(0, .ref (aM 0)), (1, .int x1), (2, .int x2)]) (by decide) rfl rfl (Nat.le_of_ble_eq_true rfl) rfl ?_
  intro p e s m below meth c X hr hlk hK hN hsz hP hD hA hS hin ls hl
  generalize va_A (wbX9 K aM s0) sz = A at hD hA hS hN ⊢
  rw [fX9_rides] at hf
  refine lv_aload_n X.1 X.2.1 dX9_rides_0 rfl (lv_at hl 0 rfl) ?_
  refine lv_iload_n X.1 X.2.1 dX9_rides_1 rfl (lv_at hl 1 rfl) ?_
  obtain ⟨r1, s2, hc3, hf⟩ := bd2_e hf
  refine z_V (n := 1) (As := [.int x1]) (rest := []) (ci := 9) (q0 := 0) X hK hN (kX9_isRider l D K aM s0 _ x1 r1 s2 hc3) (bw_V W16_9 W16_10 W16_11 W1_5 W16_12) rfl ⟨rfl, rfl⟩ (by decide +kernel) rfl ⟨Nat.le_of_ble_eq_true rfl, Nat.le_of_ble_eq_true rfl⟩ hP hD rfl rfl (zj_same hD hS hA) hS hl.1 rfl (Nat.le_of_ble_eq_true rfl) dX9_rides_2 ⟨Nat.zero_le _, Nat.zero_le _⟩ rfl (fun H locs hP hD hS => ?_)
  refine lv_if_eq (tgt := 26) X.1 X.2.1 dX9_rides_5 (by decide) (fun c4 => ?_) (fun c4 => ?_)
  · have hf := ite_t hf c4
    refine lv_bipush (v := -2) X.1 X.2.1 dX9_rides_26 (by decide) ?_
    obtain ⟨rfl, rfl⟩ := z_inj2 hf
    exact z_iret X hr hlk hP hD hS dX9_rides_28
  · have hf := ite_f hf c4
    refine lv_iload_n X.1 X.2.1 dX9_rides_8 rfl (lv_at hl 2 rfl) ?_
    refine lv_iconst (v := 0) X.1 X.2.1 dX9_rides_9 (by decide) ?_
    refine lv_iconst (v := 2) X.1 X.2.1 dX9_rides_10 (by decide) ?_
    obtain ⟨r5, hc6, hf⟩ := bd1_e hf
    refine z_S (n := 3) (As := [.int x2, .int 0, .int 2]) (rest := []) X hK hN (kX9_in l D K _ x2 0 2 r5 hc6) (bw_S W8_17 W8_18 W1_5 W8_19) rfl ⟨rfl, rfl⟩ (by decide +kernel) rfl ⟨Nat.le_of_ble_eq_true rfl, Nat.le_of_ble_eq_true rfl⟩ (fun _ _ h => by simp at h) ⟨fun _ _ _ _ h => by simp at h, fun _ _ h => by simp at h⟩ (zj_none hP hD hS hA) hS hl.1 rfl (Nat.le_of_ble_eq_true rfl) dX9_rides_11 ⟨Nat.zero_le _, Nat.zero_le _⟩ rfl (fun H locs hP hD hS => ?_)
    refine lv_if_eq (tgt := 26) X.1 X.2.1 dX9_rides_14 (by decide) (fun c7 => ?_) (fun c7 => ?_)
    · have hf := ite_t hf c7
      refine lv_bipush (v := -2) X.1 X.2.1 dX9_rides_26 (by decide) ?_
      obtain ⟨rfl, rfl⟩ := z_inj2 hf
      exact z_iret X hr hlk hP hD hS dX9_rides_28
    · have hf := ite_f hf c7
      refine lv_aload_n X.1 X.2.1 dX9_rides_17 rfl (lv_at hl 0 rfl) ?_
      refine lv_iload_n X.1 X.2.1 dX9_rides_18 rfl (lv_at hl 1 rfl) ?_
      refine lv_iload_n X.1 X.2.1 dX9_rides_19 rfl (lv_at hl 2 rfl) ?_
      obtain ⟨r8, s9, hc10, hf⟩ := bd2_e hf
      refine z_V (n := 2) (As := [.int x1, .int x2]) (rest := []) (ci := 9) (q0 := 0) X hK hN (kX9_ridesOf l D K aM s2 _ x1 x2 r8 s9 hc10) (bw_V W23_15 W23_16 W23_17 W1_5 W23_18) rfl ⟨rfl, rfl⟩ (by decide +kernel) rfl ⟨Nat.le_of_ble_eq_true rfl, Nat.le_of_ble_eq_true rfl⟩ hP hD rfl rfl (zj_same hD hS hA) hS hl.1 rfl (Nat.le_of_ble_eq_true rfl) dX9_rides_20 ⟨Nat.zero_le _, Nat.zero_le _⟩ rfl (fun H locs hP hD hS => ?_)
      refine lv_goto (tgt := 28) X.1 X.2.1 dX9_rides_23 (by decide) ?_
      obtain ⟨rfl, rfl⟩ := z_inj2 hf
      exact z_iret X hr hlk hP hD hS dX9_rides_28
abbrev rmX9_set : Room := { frames := 1, cells := 0, slots := 0, locals := 22 }
set_option maxHeartbeats 4000000 in
set_option maxRecDepth 100000 in
theorem kX9_set (l : Launch) (D : va_G) (K : Nat → ClassId) (aM : Nat → Nat) (s0 : St) (sz : Nat) (x1 : Int32) (x2 : Int32) (q_ : Int32) (s_ : St) (hf : fX9_set s0 x1 x2 = some (q_, s_)) : Met l yX9_set (bw (Cond.code yX9_set cX9_set 4 (some .int))) rmX9_set (va_Pc [.ref (aM 0), .int x1, .int x2] (zB D K sz (wbX9 K aM s0))) (zQ (some (.int q_)) D (va_A (wbX9 K aM s0) sz) (wbX9 K aM s_)) 0 0 (va_A (wbX9 K aM s0) sz) := by
  refine z_of (cc := cX9_set) (maxL := 4) (ret := (some .int)) (own := RX9) (lv := [(0, .ref (aM 0)), (1, .int x1), (2, .int x2)]) (by decide) rfl rfl (Nat.le_of_ble_eq_true rfl) rfl ?_
  intro p e s m below meth c X hr hlk hK hN hsz hP hD hA hS hin ls hl
  generalize va_A (wbX9 K aM s0) sz = A at hD hA hS hN ⊢
  have hiX9 : ∀ w ∈ u_ws RX9 TX9 44, w ∈ (bw (Cond.code yX9_set cX9_set 4 (some .int))) := fun w h => bw_in (inlX9 w h)
  rw [fX9_set] at hf
  refine lv_iload_n X.1 X.2.1 dX9_set_0 rfl (lv_at hl 1 rfl) ?_
  refine lv_iconst (v := 0) X.1 X.2.1 dX9_set_1 (by decide) ?_
  refine lv_iconst (v := 1) X.1 X.2.1 dX9_set_2 (by decide) ?_
  obtain ⟨r1, hc2, hf⟩ := bd1_e hf
  refine z_S (n := 3) (As := [.int x1, .int 0, .int 1]) (rest := []) X hK hN (kX9_in l D K _ x1 0 1 r1 hc2) (bw_S W8_17 W8_18 W1_5 W8_19) rfl ⟨rfl, rfl⟩ (by decide +kernel) rfl ⟨Nat.le_of_ble_eq_true rfl, Nat.le_of_ble_eq_true rfl⟩ (fun _ _ h => by simp at h) ⟨fun _ _ _ _ h => by simp at h, fun _ _ h => by simp at h⟩ (zj_none hP hD hS hA) hS hl.1 rfl (Nat.le_of_ble_eq_true rfl) dX9_set_3 ⟨Nat.zero_le _, Nat.zero_le _⟩ rfl (fun H locs hP hD hS => ?_)
  refine lv_if_eq (tgt := 28) X.1 X.2.1 dX9_set_6 (by decide) (fun c3 => ?_) (fun c3 => ?_)
  · have hf := ite_t hf c3
    refine lv_bipush (v := -2) X.1 X.2.1 dX9_set_28 (by decide) ?_
    obtain ⟨rfl, rfl⟩ := z_inj2 hf
    exact z_iret X hr hlk hP hD hS dX9_set_30
  · have hf := ite_f hf c3
    refine lv_iload_n X.1 X.2.1 dX9_set_9 rfl (lv_at hl 2 rfl) ?_
    refine lv_iload_n X.1 X.2.1 dX9_set_10 rfl (lv_at hl 1 rfl) ?_
    refine lv_iload_n X.1 X.2.1 dX9_set_11 rfl (lv_at hl 1 rfl) ?_
    refine lv_if_ne (tgt := 20) X.1 X.2.1 dX9_set_12 (by decide) (fun c4 => ?_) (fun c4 => ?_)
    · have hf := ite_f hf c4
      refine lv_bipush (v := 60) X.1 X.2.1 dX9_set_20 (by decide) ?_
      obtain ⟨r5, hc6, hf⟩ := bd1_e hf
      refine z_S (n := 3) (As := [.int x2, .int x1, .int 60]) (rest := []) X hK hN (kX9_in l D K _ x2 x1 60 r5 hc6) (bw_S W8_17 W8_18 W1_5 W8_19) rfl ⟨rfl, rfl⟩ (by decide +kernel) rfl ⟨Nat.le_of_ble_eq_true rfl, Nat.le_of_ble_eq_true rfl⟩ (fun _ _ h => by simp at h) ⟨fun _ _ _ _ h => by simp at h, fun _ _ h => by simp at h⟩ (zj_none hP hD hS hA) hS hl.1 rfl (Nat.le_of_ble_eq_true rfl) dX9_set_22 ⟨Nat.zero_le _, Nat.zero_le _⟩ rfl (fun H locs hP hD hS => ?_)
      refine lv_if_ne (tgt := 31) X.1 X.2.1 dX9_set_25 (by decide) (fun c7 => ?_) (fun c7 => ?_)
      · have hf := ite_f hf c7
        refine lv_iload_n X.1 X.2.1 dX9_set_31 rfl (lv_at hl 1 rfl) ?_
        refine lv_if_ne (tgt := 42) X.1 X.2.1 dX9_set_32 (by decide) (fun _ => ?_) (fun c => absurd c c4)
        refine lv_aload_n X.1 X.2.1 dX9_set_42 rfl (lv_at hl 0 rfl) ?_
        refine z_get X hK hP hiX9 0 rfl rfl 12 (by decide) (bw_in W7_21) rfl dX9_set_43 ?_
        obtain ⟨w8, ew8, hf⟩ := stp_e hf
        refine z_top ew8 ?_
        refine lv_istore_n (lv' := [(3, .int w8), (0, .ref (aM 0)), (1, .int x1), (2, .int x2)]) X.1 X.2.1 dX9_set_46 rfl hl (by decide) rfl (fun ls hl => ?_)
        refine lv_aload_n X.1 X.2.1 dX9_set_47 rfl (lv_at hl 1 rfl) ?_
        refine lv_iload_n X.1 X.2.1 dX9_set_48 rfl (lv_at hl 2 rfl) ?_
        refine lv_if_ne (tgt := 56) X.1 X.2.1 dX9_set_49 (by decide) (fun _ => ?_) (fun c => absurd c c4)
        refine lv_aload_n X.1 X.2.1 dX9_set_56 rfl (lv_at hl 1 rfl) ?_
        refine z_get X hK hP hiX9 0 rfl rfl 11 (by decide) (bw_in W7_20) rfl dX9_set_57 ?_
        obtain ⟨s9, es9, hf⟩ := stp_e hf
        refine z_put (ws' := wbX9 K aM s9) X hK hP hD hS hiX9 tyX9_ok nmX9 0 rfl rfl 11 (by decide) (bw_in W7_20) rfl rfl rfl (Nat.le_of_ble_eq_true rfl) dX9_set_60 (by rw [es9]; rfl) (fun H locs hP hD hS => ?_)
        refine lv_aload_n X.1 X.2.1 dX9_set_63 rfl (lv_at hl 1 rfl) ?_
        refine lv_iload_n X.1 X.2.1 dX9_set_64 rfl (lv_at hl 2 rfl) ?_
        refine lv_iconst (v := 1) X.1 X.2.1 dX9_set_65 (by decide) ?_
        refine lv_icmp_ne (tgt := 73) X.1 X.2.1 dX9_set_66 (by decide) (fun c10 => ?_) (fun c10 => ?_)
        · have hf := ite_f hf c10
          refine lv_aload_n X.1 X.2.1 dX9_set_73 rfl (lv_at hl 1 rfl) ?_
          refine z_get X hK hP hiX9 0 rfl rfl 12 (by decide) (bw_in W7_21) rfl dX9_set_74 ?_
          obtain ⟨s11, es11, hf⟩ := stp_e hf
          refine z_put (ws' := wbX9 K aM s11) X hK hP hD hS hiX9 tyX9_ok nmX9 0 rfl rfl 12 (by decide) (bw_in W7_21) rfl rfl rfl (Nat.le_of_ble_eq_true rfl) dX9_set_77 (by rw [es11]; rfl) (fun H locs hP hD hS => ?_)
          refine lv_iload_n X.1 X.2.1 dX9_set_80 rfl (lv_at hl 0 rfl) ?_
          obtain ⟨rfl, rfl⟩ := z_inj2 hf
          exact z_iret X hr hlk hP hD hS dX9_set_81
        · have hf := ite_t hf c10
          refine lv_iload_n X.1 X.2.1 dX9_set_69 rfl (lv_at hl 3 rfl) ?_
          refine lv_goto (tgt := 77) X.1 X.2.1 dX9_set_70 (by decide) ?_
          obtain ⟨s12, es12, hf⟩ := stp_e hf
          refine z_put (ws' := wbX9 K aM s12) X hK hP hD hS hiX9 tyX9_ok nmX9 0 rfl rfl 12 (by decide) (bw_in W7_21) rfl rfl rfl (Nat.le_of_ble_eq_true rfl) dX9_set_77 (by rw [es12]; rfl) (fun H locs hP hD hS => ?_)
          refine lv_iload_n X.1 X.2.1 dX9_set_80 rfl (lv_at hl 0 rfl) ?_
          obtain ⟨rfl, rfl⟩ := z_inj2 hf
          exact z_iret X hr hlk hP hD hS dX9_set_81
      · have hf := ite_t hf c7
        refine lv_bipush (v := -2) X.1 X.2.1 dX9_set_28 (by decide) ?_
        obtain ⟨rfl, rfl⟩ := z_inj2 hf
        exact z_iret X hr hlk hP hD hS dX9_set_30
    · have hf := ite_t hf c4
      refine lv_bipush (v := 8) X.1 X.2.1 dX9_set_15 (by decide) ?_
      refine lv_goto (tgt := 22) X.1 X.2.1 dX9_set_17 (by decide) ?_
      obtain ⟨r13, hc14, hf⟩ := bd1_e hf
      refine z_S (n := 3) (As := [.int x2, .int x1, .int 8]) (rest := []) X hK hN (kX9_in l D K _ x2 x1 8 r13 hc14) (bw_S W8_17 W8_18 W1_5 W8_19) rfl ⟨rfl, rfl⟩ (by decide +kernel) rfl ⟨Nat.le_of_ble_eq_true rfl, Nat.le_of_ble_eq_true rfl⟩ (fun _ _ h => by simp at h) ⟨fun _ _ _ _ h => by simp at h, fun _ _ h => by simp at h⟩ (zj_none hP hD hS hA) hS hl.1 rfl (Nat.le_of_ble_eq_true rfl) dX9_set_22 ⟨Nat.zero_le _, Nat.zero_le _⟩ rfl (fun H locs hP hD hS => ?_)
      refine lv_if_ne (tgt := 31) X.1 X.2.1 dX9_set_25 (by decide) (fun c15 => ?_) (fun c15 => ?_)
      · have hf := ite_f hf c15
        refine lv_iload_n X.1 X.2.1 dX9_set_31 rfl (lv_at hl 1 rfl) ?_
        refine lv_if_ne (tgt := 42) X.1 X.2.1 dX9_set_32 (by decide) (fun c => absurd c4 c) (fun _ => ?_)
        refine lv_aload_n X.1 X.2.1 dX9_set_35 rfl (lv_at hl 0 rfl) ?_
        refine z_get X hK hP hiX9 0 rfl rfl 11 (by decide) (bw_in W7_20) rfl dX9_set_36 ?_
        refine lv_goto (tgt := 46) X.1 X.2.1 dX9_set_39 (by decide) ?_
        obtain ⟨w16, ew16, hf⟩ := stp_e hf
        refine z_top ew16 ?_
        refine lv_istore_n (lv' := [(3, .int w16), (0, .ref (aM 0)), (1, .int x1), (2, .int x2)]) X.1 X.2.1 dX9_set_46 rfl hl (by decide) rfl (fun ls hl => ?_)
        refine lv_aload_n X.1 X.2.1 dX9_set_47 rfl (lv_at hl 1 rfl) ?_
        refine lv_iload_n X.1 X.2.1 dX9_set_48 rfl (lv_at hl 2 rfl) ?_
        refine lv_if_ne (tgt := 56) X.1 X.2.1 dX9_set_49 (by decide) (fun c => absurd c4 c) (fun _ => ?_)
        refine lv_iload_n X.1 X.2.1 dX9_set_52 rfl (lv_at hl 3 rfl) ?_
        refine lv_goto (tgt := 60) X.1 X.2.1 dX9_set_53 (by decide) ?_
        obtain ⟨s17, es17, hf⟩ := stp_e hf
        refine z_put (ws' := wbX9 K aM s17) X hK hP hD hS hiX9 tyX9_ok nmX9 0 rfl rfl 11 (by decide) (bw_in W7_20) rfl rfl rfl (Nat.le_of_ble_eq_true rfl) dX9_set_60 (by rw [es17]; rfl) (fun H locs hP hD hS => ?_)
        refine lv_aload_n X.1 X.2.1 dX9_set_63 rfl (lv_at hl 1 rfl) ?_
        refine lv_iload_n X.1 X.2.1 dX9_set_64 rfl (lv_at hl 2 rfl) ?_
        refine lv_iconst (v := 1) X.1 X.2.1 dX9_set_65 (by decide) ?_
        refine lv_icmp_ne (tgt := 73) X.1 X.2.1 dX9_set_66 (by decide) (fun c18 => ?_) (fun c18 => ?_)
        · have hf := ite_f hf c18
          refine lv_aload_n X.1 X.2.1 dX9_set_73 rfl (lv_at hl 1 rfl) ?_
          refine z_get X hK hP hiX9 0 rfl rfl 12 (by decide) (bw_in W7_21) rfl dX9_set_74 ?_
          obtain ⟨s19, es19, hf⟩ := stp_e hf
          refine z_put (ws' := wbX9 K aM s19) X hK hP hD hS hiX9 tyX9_ok nmX9 0 rfl rfl 12 (by decide) (bw_in W7_21) rfl rfl rfl (Nat.le_of_ble_eq_true rfl) dX9_set_77 (by rw [es19]; rfl) (fun H locs hP hD hS => ?_)
          refine lv_iload_n X.1 X.2.1 dX9_set_80 rfl (lv_at hl 0 rfl) ?_
          obtain ⟨rfl, rfl⟩ := z_inj2 hf
          exact z_iret X hr hlk hP hD hS dX9_set_81
        · have hf := ite_t hf c18
          refine lv_iload_n X.1 X.2.1 dX9_set_69 rfl (lv_at hl 3 rfl) ?_
          refine lv_goto (tgt := 77) X.1 X.2.1 dX9_set_70 (by decide) ?_
          obtain ⟨s20, es20, hf⟩ := stp_e hf
          refine z_put (ws' := wbX9 K aM s20) X hK hP hD hS hiX9 tyX9_ok nmX9 0 rfl rfl 12 (by decide) (bw_in W7_21) rfl rfl rfl (Nat.le_of_ble_eq_true rfl) dX9_set_77 (by rw [es20]; rfl) (fun H locs hP hD hS => ?_)
          refine lv_iload_n X.1 X.2.1 dX9_set_80 rfl (lv_at hl 0 rfl) ?_
          obtain ⟨rfl, rfl⟩ := z_inj2 hf
          exact z_iret X hr hlk hP hD hS dX9_set_81
      · have hf := ite_t hf c15
        refine lv_bipush (v := -2) X.1 X.2.1 dX9_set_28 (by decide) ?_
        obtain ⟨rfl, rfl⟩ := z_inj2 hf
        exact z_iret X hr hlk hP hD hS dX9_set_30
abbrev rmX9_sheet : Room := { frames := 2, cells := 0, slots := 0, locals := 42 }
set_option maxHeartbeats 4000000 in
set_option maxRecDepth 100000 in
theorem kX9_sheet (l : Launch) (D : va_G) (K : Nat → ClassId) (aM : Nat → Nat) (s0 : St) (sz : Nat) (x1 : Int32) (x2 : Int32) (x3 : Int32) (q_ : Int32) (s_ : St) (hf : fX9_sheet s0 x1 x2 x3 = some (q_, s_)) : Met l yX9_sheet (bw (Cond.code yX9_sheet cX9_sheet 5 (some .int))) rmX9_sheet (va_Pc [.ref (aM 0), .int x1, .int x2, .int x3] (zB D K sz (wbX9 K aM s0))) (zQ (some (.int q_)) D (va_A (wbX9 K aM s0) sz) (wbX9 K aM s_)) 0 0 (va_A (wbX9 K aM s0) sz) := by
  refine z_of (cc := cX9_sheet) (maxL := 5) (ret := (some .int)) (own := RX9) (lv := [(0, .ref (aM 0)), (1, .int x1), (2, .int x2), (3, .int x3)]) (by decide) rfl rfl (Nat.le_of_ble_eq_true rfl) rfl ?_
  intro p e s m below meth c X hr hlk hK hN hsz hP hD hA hS hin ls hl
  generalize va_A (wbX9 K aM s0) sz = A at hD hA hS hN ⊢
  have hiX9 : ∀ w ∈ u_ws RX9 TX9 44, w ∈ (bw (Cond.code yX9_sheet cX9_sheet 5 (some .int))) := fun w h => bw_in (inlX9 w h)
  have L59_0 : ∀ (n : Nat), ∀ (n59_0 : Int32) (n59_1 : Int32) (n59_2 : Int32) (q59_M : St), fX9_sheet_59 n n59_0 n59_1 n59_2 q59_M = some ((q_, s_)) → ∀ (H : Heap) (locs : List Loc), va_P D vwCl (wbX9 K aM q59_M) H → va_D A (wbX9 K aM q59_M) → va_S A s.heap H locs → ∀ (ls : Array Slot), lv_has ls 5 [(0, .ref (aM 0)), (1, .int n59_0), (3, .int n59_1), (4, .int n59_2)] → W p l e rmX9_sheet s m ([.ref (aM 0), .int x1, .int x2, .int x3] : List Value).toArray below meth c H locs 0 0 (MQ below (zQ (some (.int q_)) D A (wbX9 K aM s_)) ([.ref (aM 0), .int x1, .int x2, .int x3] : List Value).toArray s 0 0 A) (F0 m 59 ls []) := by
    intro n
    induction n with
    | zero =>
      intro n59_0 n59_1 n59_2 q59_M hf
      rw [fX9_sheet_59] at hf
      cases hf
    | succ n ih =>
      intro n59_0 n59_1 n59_2 q59_M hf H locs hP hD hS ls hl
      rw [fX9_sheet_59] at hf
      refine lv_iload X.1 X.2.1 dX9_sheet_59 (lv_at hl 3 rfl) ?_
      refine lv_bipush (v := 60) X.1 X.2.1 dX9_sheet_61 (by decide) ?_
      refine lv_icmp_ge (tgt := 85) X.1 X.2.1 dX9_sheet_63 (by decide) (fun c15 => ?_) (fun c15 => ?_)
      · have hf := ite_t hf c15
        refine lv_iload_n X.1 X.2.1 dX9_sheet_85 rfl (lv_at hl 2 rfl) ?_
        obtain ⟨rfl, rfl⟩ := z_inj2 hf
        exact z_iret X hr hlk hP hD hS dX9_sheet_86
      · have hf := ite_f hf c15
        refine lv_aload_n X.1 X.2.1 dX9_sheet_66 rfl (lv_at hl 0 rfl) ?_
        refine z_get X hK hP hiX9 0 rfl rfl 41 (by decide) (bw_in W7_18) rfl dX9_sheet_67 ?_
        refine lv_bipush (v := 60) X.1 X.2.1 dX9_sheet_70 (by decide) ?_
        refine lv_iload_n X.1 X.2.1 dX9_sheet_72 rfl (lv_at hl 1 rfl) ?_
        refine lv_imul X.1 X.2.1 dX9_sheet_73 ?_
        refine lv_iload X.1 X.2.1 dX9_sheet_74 (lv_at hl 3 rfl) ?_
        refine lv_iadd X.1 X.2.1 dX9_sheet_76 ?_
        refine lv_iconst (v := 0) X.1 X.2.1 dX9_sheet_77 (by decide) ?_
        obtain ⟨hi16, hf⟩ := chk_e hf
        obtain ⟨s17, es17, hf⟩ := stp_e hf
        refine z_iast (ws' := wbX9 K aM s17) X hK hP hD hS 26 rfl hi16 dX9_sheet_78 (by rw [es17]; rfl) (fun H locs hP hD hS => ?_)
        obtain ⟨w18, ew18, hf⟩ := stp_e hf
        refine lv_iinc (v := w18) (lv' := [(4, .int w18), (0, .ref (aM 0)), (1, .int n59_0), (3, .int n59_1)]) X.1 X.2.1 dX9_sheet_79 hl (k := 3) rfl (by rw [ew18]; rfl) (by decide) rfl (fun ls hl => ?_)
        refine lv_goto (tgt := 59) X.1 X.2.1 dX9_sheet_82 (by decide) ?_
        exact ih _ _ _ _ hf _ _ hP hD hS _ (lv_sub hl [1, 2, 3, 0] rfl)
  rw [fX9_sheet] at hf
  refine lv_iload_n X.1 X.2.1 dX9_sheet_0 rfl (lv_at hl 1 rfl) ?_
  obtain ⟨r1, hc2, hf⟩ := bd1_e hf
  refine z_S (n := 1) (As := [.int x1]) (rest := []) X hK hN (kX9_isSheet l D K _ x1 r1 hc2) (bw_S W32_0 W32_1 W1_5 W32_2) rfl ⟨rfl, rfl⟩ (by decide +kernel) rfl ⟨Nat.le_of_ble_eq_true rfl, Nat.le_of_ble_eq_true rfl⟩ (fun _ _ h => by simp at h) ⟨fun _ _ _ _ h => by simp at h, fun _ _ h => by simp at h⟩ (zj_none hP hD hS hA) hS hl.1 rfl (Nat.le_of_ble_eq_true rfl) dX9_sheet_1 ⟨Nat.zero_le _, Nat.zero_le _⟩ rfl (fun H locs hP hD hS => ?_)
  refine lv_if_eq (tgt := 22) X.1 X.2.1 dX9_sheet_4 (by decide) (fun c3 => ?_) (fun c3 => ?_)
  · have hf := ite_t hf c3
    refine lv_bipush (v := -2) X.1 X.2.1 dX9_sheet_22 (by decide) ?_
    obtain ⟨rfl, rfl⟩ := z_inj2 hf
    exact z_iret X hr hlk hP hD hS dX9_sheet_24
  · have hf := ite_f hf c3
    refine lv_iload_n X.1 X.2.1 dX9_sheet_7 rfl (lv_at hl 2 rfl) ?_
    refine lv_iconst (v := 0) X.1 X.2.1 dX9_sheet_8 (by decide) ?_
    refine lv_iconst (v := 2) X.1 X.2.1 dX9_sheet_9 (by decide) ?_
    obtain ⟨r4, hc5, hf⟩ := bd1_e hf
    refine z_S (n := 3) (As := [.int x2, .int 0, .int 2]) (rest := []) X hK hN (kX9_in l D K _ x2 0 2 r4 hc5) (bw_S W8_17 W8_18 W1_5 W8_19) rfl ⟨rfl, rfl⟩ (by decide +kernel) rfl ⟨Nat.le_of_ble_eq_true rfl, Nat.le_of_ble_eq_true rfl⟩ (fun _ _ h => by simp at h) ⟨fun _ _ _ _ h => by simp at h, fun _ _ h => by simp at h⟩ (zj_none hP hD hS hA) hS hl.1 rfl (Nat.le_of_ble_eq_true rfl) dX9_sheet_10 ⟨Nat.zero_le _, Nat.zero_le _⟩ rfl (fun H locs hP hD hS => ?_)
    refine lv_if_eq (tgt := 22) X.1 X.2.1 dX9_sheet_13 (by decide) (fun c6 => ?_) (fun c6 => ?_)
    · have hf := ite_t hf c6
      refine lv_bipush (v := -2) X.1 X.2.1 dX9_sheet_22 (by decide) ?_
      obtain ⟨rfl, rfl⟩ := z_inj2 hf
      exact z_iret X hr hlk hP hD hS dX9_sheet_24
    · have hf := ite_f hf c6
      refine lv_iload_n X.1 X.2.1 dX9_sheet_16 rfl (lv_at hl 3 rfl) ?_
      refine lv_bipush (v := 60) X.1 X.2.1 dX9_sheet_17 (by decide) ?_
      refine lv_icmp_le (tgt := 25) X.1 X.2.1 dX9_sheet_19 (by decide) (fun c7 => ?_) (fun c7 => ?_)
      · have hf := ite_t hf c7
        refine lv_iload_n X.1 X.2.1 dX9_sheet_25 rfl (lv_at hl 3 rfl) ?_
        refine lv_if_ge (tgt := 35) X.1 X.2.1 dX9_sheet_26 (by decide) (fun c8 => ?_) (fun c8 => ?_)
        · have hf := ite_t hf c8
          refine lv_aload_n X.1 X.2.1 dX9_sheet_35 rfl (lv_at hl 0 rfl) ?_
          refine z_get X hK hP hiX9 0 rfl rfl 38 (by decide) (bw_in W7_15) rfl dX9_sheet_36 ?_
          refine lv_iload_n X.1 X.2.1 dX9_sheet_39 rfl (lv_at hl 1 rfl) ?_
          refine lv_iconst (v := 1) X.1 X.2.1 dX9_sheet_40 (by decide) ?_
          obtain ⟨hi9, hf⟩ := chk_e hf
          obtain ⟨s10, es10, hf⟩ := stp_e hf
          refine z_zast (ws' := wbX9 K aM s10) X hK hP hD hS 23 rfl (by decide) hi9 dX9_sheet_41 (by rw [es10]; rfl) (fun H locs hP hD hS => ?_)
          refine lv_aload_n X.1 X.2.1 dX9_sheet_42 rfl (lv_at hl 0 rfl) ?_
          refine z_get X hK hP hiX9 0 rfl rfl 39 (by decide) (bw_in W7_16) rfl dX9_sheet_43 ?_
          refine lv_iload_n X.1 X.2.1 dX9_sheet_46 rfl (lv_at hl 1 rfl) ?_
          refine lv_iload_n X.1 X.2.1 dX9_sheet_47 rfl (lv_at hl 2 rfl) ?_
          obtain ⟨hi11, hf⟩ := chk_e hf
          obtain ⟨s12, es12, hf⟩ := stp_e hf
          refine z_iast (ws' := wbX9 K aM s12) X hK hP hD hS 24 rfl hi11 dX9_sheet_48 (by rw [es12]; rfl) (fun H locs hP hD hS => ?_)
          refine lv_aload_n X.1 X.2.1 dX9_sheet_49 rfl (lv_at hl 0 rfl) ?_
          refine z_get X hK hP hiX9 0 rfl rfl 40 (by decide) (bw_in W7_17) rfl dX9_sheet_50 ?_
          refine lv_iload_n X.1 X.2.1 dX9_sheet_53 rfl (lv_at hl 1 rfl) ?_
          refine lv_iload_n X.1 X.2.1 dX9_sheet_54 rfl (lv_at hl 3 rfl) ?_
          obtain ⟨hi13, hf⟩ := chk_e hf
          obtain ⟨s14, es14, hf⟩ := stp_e hf
          refine z_iast (ws' := wbX9 K aM s14) X hK hP hD hS 25 rfl hi13 dX9_sheet_55 (by rw [es14]; rfl) (fun H locs hP hD hS => ?_)
          refine lv_iconst (v := 0) X.1 X.2.1 dX9_sheet_56 (by decide) ?_
          refine lv_istore (lv' := [(4, .int 0), (0, .ref (aM 0)), (1, .int x1), (2, .int x2), (3, .int x3)]) X.1 X.2.1 dX9_sheet_57 hl (by decide) rfl (fun ls hl => ?_)
          exact L59_0  _ _ _ _ _ hf _ _ hP hD hS _ (lv_sub hl [1, 2, 4, 0] rfl)
        · have hf := ite_f hf c8
          refine lv_aload_n X.1 X.2.1 dX9_sheet_29 rfl (lv_at hl 0 rfl) ?_
          refine lv_iconst (v := 5) X.1 X.2.1 dX9_sheet_30 (by decide) ?_
          obtain ⟨r19, s20, hc21, hf⟩ := bd2_e hf
          refine z_V (n := 1) (As := [.int 5]) (rest := []) (ci := 9) (q0 := 0) X hK hN (kX9_meets l D K aM s0 _ 5 r19 s20 hc21) (bw_V W32_3 W32_4 W32_5 W1_5 W32_6) rfl ⟨rfl, rfl⟩ (by decide +kernel) rfl ⟨Nat.le_of_ble_eq_true rfl, Nat.le_of_ble_eq_true rfl⟩ hP hD rfl rfl (zj_same hD hS hA) hS hl.1 rfl (Nat.le_of_ble_eq_true rfl) dX9_sheet_31 ⟨Nat.zero_le _, Nat.zero_le _⟩ rfl (fun H locs hP hD hS => ?_)
          obtain ⟨rfl, rfl⟩ := z_inj2 hf
          exact z_iret X hr hlk hP hD hS dX9_sheet_34
      · have hf := ite_f hf c7
        refine lv_bipush (v := -2) X.1 X.2.1 dX9_sheet_22 (by decide) ?_
        obtain ⟨rfl, rfl⟩ := z_inj2 hf
        exact z_iret X hr hlk hP hD hS dX9_sheet_24
abbrev rmX9_stopOf : Room := { frames := 6, cells := 0, slots := 0, locals := 142 }
set_option maxHeartbeats 4000000 in
set_option maxRecDepth 100000 in
theorem kX9_stopOf (l : Launch) (D : va_G) (K : Nat → ClassId) (aM : Nat → Nat) (s0 : St) (sz : Nat) (x1 : Int32) (q_ : Int32) (s_ : St) (hf : fX9_stopOf s0 x1 = some (q_, s_)) : Met l yX9_stopOf (bw (Cond.code yX9_stopOf cX9_stopOf 2 (some .int))) rmX9_stopOf (va_Pc [.ref (aM 0), .int x1] (zB D K sz (wbX9 K aM s0))) (zQ (some (.int q_)) D (va_A (wbX9 K aM s0) sz) (wbX9 K aM s_)) 0 0 (va_A (wbX9 K aM s0) sz) := by
  refine z_of (cc := cX9_stopOf) (maxL := 2) (ret := (some .int)) (own := RX9) (lv := [(0, .ref (aM 0)), (1, .int x1)]) (by decide) rfl rfl (Nat.le_of_ble_eq_true rfl) rfl ?_
  intro p e s m below meth c X hr hlk hK hN hsz hP hD hA hS hin ls hl
  generalize va_A (wbX9 K aM s0) sz = A at hD hA hS hN ⊢
  have hiX9 : ∀ w ∈ u_ws RX9 TX9 44, w ∈ (bw (Cond.code yX9_stopOf cX9_stopOf 2 (some .int))) := fun w h => bw_in (inlX9 w h)
  rw [fX9_stopOf] at hf
  refine lv_aload_n X.1 X.2.1 dX9_stopOf_0 rfl (lv_at hl 0 rfl) ?_
  obtain ⟨s1, hc2, hf⟩ := bd1_e hf
  refine z_V (n := 0) (As := []) (rest := []) (ci := 9) (q0 := 0) X hK hN (kX9_reads l D K aM s0 _ s1 hc2) (bw_V W16_13 W16_14 W16_15 W1_5 W16_16) rfl ⟨rfl, rfl⟩ (by decide +kernel) rfl ⟨Nat.le_of_ble_eq_true rfl, Nat.le_of_ble_eq_true rfl⟩ hP hD rfl rfl (zj_same hD hS hA) hS hl.1 rfl (Nat.le_of_ble_eq_true rfl) dX9_stopOf_1 ⟨Nat.zero_le _, Nat.zero_le _⟩ rfl (fun H locs hP hD hS => ?_)
  refine lv_iload_n X.1 X.2.1 dX9_stopOf_4 rfl (lv_at hl 1 rfl) ?_
  refine lv_aload_n X.1 X.2.1 dX9_stopOf_5 rfl (lv_at hl 0 rfl) ?_
  refine z_get X hK hP hiX9 0 rfl rfl 9 (by decide) (bw_in W11_6) rfl dX9_stopOf_6 ?_
  refine lv_icmp_ge (tgt := 21) X.1 X.2.1 dX9_stopOf_9 (by decide) (fun c3 => ?_) (fun c3 => ?_)
  · have hf := ite_t hf c3
    refine lv_iconst (v := -1) X.1 X.2.1 dX9_stopOf_21 (by decide) ?_
    obtain ⟨rfl, rfl⟩ := z_inj2 hf
    exact z_iret X hr hlk hP hD hS dX9_stopOf_22
  · have hf := ite_f hf c3
    refine lv_aload_n X.1 X.2.1 dX9_stopOf_12 rfl (lv_at hl 0 rfl) ?_
    refine z_get X hK hP hiX9 0 rfl rfl 10 (by decide) (bw_in W6_23) rfl dX9_stopOf_13 ?_
    refine lv_iload_n X.1 X.2.1 dX9_stopOf_16 rfl (lv_at hl 1 rfl) ?_
    obtain ⟨hi5, hf⟩ := chk_e hf
    obtain ⟨v4, ev4, hf⟩ := stp_e hf
    refine z_iald X hK hP 8 rfl hi5 ev4 dX9_stopOf_17 ?_
    refine lv_goto (tgt := 22) X.1 X.2.1 dX9_stopOf_18 (by decide) ?_
    obtain ⟨rfl, rfl⟩ := z_inj2 hf
    exact z_iret X hr hlk hP hD hS dX9_stopOf_22
abbrev rmX9_stop : Room := { frames := 7, cells := 0, slots := 0, locals := 163 }
set_option maxHeartbeats 4000000 in
set_option maxRecDepth 100000 in
theorem kX9_stop (l : Launch) (D : va_G) (K : Nat → ClassId) (aM : Nat → Nat) (s0 : St) (sz : Nat) (x1 : Int32) (q_ : Int32) (s_ : St) (hf : fX9_stop s0 x1 = some (q_, s_)) : Met l yX9_stop (bw (Cond.code yX9_stop cX9_stop 2 (some .int))) rmX9_stop (va_Pc [.ref (aM 0), .int x1] (zB D K sz (wbX9 K aM s0))) (zQ (some (.int q_)) D (va_A (wbX9 K aM s0) sz) (wbX9 K aM s_)) 0 0 (va_A (wbX9 K aM s0) sz) := by
  refine z_of (cc := cX9_stop) (maxL := 2) (ret := (some .int)) (own := RX9) (lv := [(0, .ref (aM 0)), (1, .int x1)]) (by decide) rfl rfl (Nat.le_of_ble_eq_true rfl) rfl ?_
  intro p e s m below meth c X hr hlk hK hN hsz hP hD hA hS hin ls hl
  generalize va_A (wbX9 K aM s0) sz = A at hD hA hS hN ⊢
  rw [fX9_stop] at hf
  refine lv_iload_n X.1 X.2.1 dX9_stop_0 rfl (lv_at hl 1 rfl) ?_
  refine lv_iconst (v := 0) X.1 X.2.1 dX9_stop_1 (by decide) ?_
  refine lv_bipush (v := 19) X.1 X.2.1 dX9_stop_2 (by decide) ?_
  obtain ⟨r1, hc2, hf⟩ := bd1_e hf
  refine z_S (n := 3) (As := [.int x1, .int 0, .int 19]) (rest := []) X hK hN (kX9_in l D K _ x1 0 19 r1 hc2) (bw_S W8_17 W8_18 W1_5 W8_19) rfl ⟨rfl, rfl⟩ (by decide +kernel) rfl ⟨Nat.le_of_ble_eq_true rfl, Nat.le_of_ble_eq_true rfl⟩ (fun _ _ h => by simp at h) ⟨fun _ _ _ _ h => by simp at h, fun _ _ h => by simp at h⟩ (zj_none hP hD hS hA) hS hl.1 rfl (Nat.le_of_ble_eq_true rfl) dX9_stop_4 ⟨Nat.zero_le _, Nat.zero_le _⟩ rfl (fun H locs hP hD hS => ?_)
  refine lv_if_eq (tgt := 18) X.1 X.2.1 dX9_stop_7 (by decide) (fun c3 => ?_) (fun c3 => ?_)
  · have hf := ite_t hf c3
    refine lv_bipush (v := -2) X.1 X.2.1 dX9_stop_18 (by decide) ?_
    obtain ⟨rfl, rfl⟩ := z_inj2 hf
    exact z_iret X hr hlk hP hD hS dX9_stop_20
  · have hf := ite_f hf c3
    refine lv_aload_n X.1 X.2.1 dX9_stop_10 rfl (lv_at hl 0 rfl) ?_
    refine lv_iload_n X.1 X.2.1 dX9_stop_11 rfl (lv_at hl 1 rfl) ?_
    obtain ⟨r4, s5, hc6, hf⟩ := bd2_e hf
    refine z_V (n := 1) (As := [.int x1]) (rest := []) (ci := 9) (q0 := 0) X hK hN (kX9_stopOf l D K aM s0 _ x1 r4 s5 hc6) (bw_V W18_2 W18_3 W18_4 W1_5 W18_5) rfl ⟨rfl, rfl⟩ (by decide +kernel) rfl ⟨Nat.le_of_ble_eq_true rfl, Nat.le_of_ble_eq_true rfl⟩ hP hD rfl rfl (zj_same hD hS hA) hS hl.1 rfl (Nat.le_of_ble_eq_true rfl) dX9_stop_12 ⟨Nat.zero_le _, Nat.zero_le _⟩ rfl (fun H locs hP hD hS => ?_)
    refine lv_goto (tgt := 20) X.1 X.2.1 dX9_stop_15 (by decide) ?_
    obtain ⟨rfl, rfl⟩ := z_inj2 hf
    exact z_iret X hr hlk hP hD hS dX9_stop_20
abbrev rmX9_type : Room := { frames := 2, cells := 0, slots := 0, locals := 42 }
set_option maxHeartbeats 4000000 in
set_option maxRecDepth 100000 in
theorem kX9_type (l : Launch) (D : va_G) (K : Nat → ClassId) (aM : Nat → Nat) (s0 : St) (sz : Nat) (x1 : Int32) (x2 : Int32) (q_ : Int32) (s_ : St) (hf : fX9_type s0 x1 x2 = some (q_, s_)) : Met l yX9_type (bw (Cond.code yX9_type cX9_type 3 (some .int))) rmX9_type (va_Pc [.ref (aM 0), .int x1, .int x2] (zB D K sz (wbX9 K aM s0))) (zQ (some (.int q_)) D (va_A (wbX9 K aM s0) sz) (wbX9 K aM s_)) 0 0 (va_A (wbX9 K aM s0) sz) := by
  refine z_of (cc := cX9_type) (maxL := 3) (ret := (some .int)) (own := RX9) (lv := [(0, .ref (aM 0)), (1, .int x1), (2, .int x2)]) (by decide) rfl rfl (Nat.le_of_ble_eq_true rfl) rfl ?_
  intro p e s m below meth c X hr hlk hK hN hsz hP hD hA hS hin ls hl
  generalize va_A (wbX9 K aM s0) sz = A at hD hA hS hN ⊢
  have hiX9 : ∀ w ∈ u_ws RX9 TX9 44, w ∈ (bw (Cond.code yX9_type cX9_type 3 (some .int))) := fun w h => bw_in (inlX9 w h)
  rw [fX9_type] at hf
  refine lv_iload_n X.1 X.2.1 dX9_type_0 rfl (lv_at hl 1 rfl) ?_
  obtain ⟨r1, hc2, hf⟩ := bd1_e hf
  refine z_S (n := 1) (As := [.int x1]) (rest := []) X hK hN (kX9_isText l D K _ x1 r1 hc2) (bw_S W8_14 W8_15 W1_5 W8_16) rfl ⟨rfl, rfl⟩ (by decide +kernel) rfl ⟨Nat.le_of_ble_eq_true rfl, Nat.le_of_ble_eq_true rfl⟩ (fun _ _ h => by simp at h) ⟨fun _ _ _ _ h => by simp at h, fun _ _ h => by simp at h⟩ (zj_none hP hD hS hA) hS hl.1 rfl (Nat.le_of_ble_eq_true rfl) dX9_type_1 ⟨Nat.zero_le _, Nat.zero_le _⟩ rfl (fun H locs hP hD hS => ?_)
  refine lv_if_eq (tgt := 18) X.1 X.2.1 dX9_type_4 (by decide) (fun c3 => ?_) (fun c3 => ?_)
  · have hf := ite_t hf c3
    refine lv_bipush (v := -2) X.1 X.2.1 dX9_type_18 (by decide) ?_
    obtain ⟨rfl, rfl⟩ := z_inj2 hf
    exact z_iret X hr hlk hP hD hS dX9_type_20
  · have hf := ite_f hf c3
    refine lv_iload_n X.1 X.2.1 dX9_type_7 rfl (lv_at hl 2 rfl) ?_
    refine lv_iconst (v := 0) X.1 X.2.1 dX9_type_8 (by decide) ?_
    refine lv_sipush (v := 255) X.1 X.2.1 dX9_type_9 (by decide) ?_
    obtain ⟨r4, hc5, hf⟩ := bd1_e hf
    refine z_S (n := 3) (As := [.int x2, .int 0, .int 255]) (rest := []) X hK hN (kX9_in l D K _ x2 0 255 r4 hc5) (bw_S W8_17 W8_18 W1_5 W8_19) rfl ⟨rfl, rfl⟩ (by decide +kernel) rfl ⟨Nat.le_of_ble_eq_true rfl, Nat.le_of_ble_eq_true rfl⟩ (fun _ _ h => by simp at h) ⟨fun _ _ _ _ h => by simp at h, fun _ _ h => by simp at h⟩ (zj_none hP hD hS hA) hS hl.1 rfl (Nat.le_of_ble_eq_true rfl) dX9_type_12 ⟨Nat.zero_le _, Nat.zero_le _⟩ rfl (fun H locs hP hD hS => ?_)
    refine lv_if_ne (tgt := 21) X.1 X.2.1 dX9_type_15 (by decide) (fun c6 => ?_) (fun c6 => ?_)
    · have hf := ite_f hf c6
      refine lv_aload_n X.1 X.2.1 dX9_type_21 rfl (lv_at hl 0 rfl) ?_
      refine z_get X hK hP hiX9 0 rfl rfl 0 (by decide) (bw_in W6_16) rfl dX9_type_22 ?_
      refine lv_iload_n X.1 X.2.1 dX9_type_25 rfl (lv_at hl 1 rfl) ?_
      obtain ⟨hi8, hf⟩ := chk_e hf
      obtain ⟨v7, ev7, hf⟩ := stp_e hf
      refine z_iald X hK hP 1 rfl hi8 ev7 dX9_type_26 ?_
      refine lv_iload_n X.1 X.2.1 dX9_type_27 rfl (lv_at hl 1 rfl) ?_
      refine lv_iconst (v := 2) X.1 X.2.1 dX9_type_28 (by decide) ?_
      refine lv_icmp_ne (tgt := 37) X.1 X.2.1 dX9_type_29 (by decide) (fun c9 => ?_) (fun c9 => ?_)
      · have hf := ite_f hf c9
        refine lv_bipush (v := 31) X.1 X.2.1 dX9_type_37 (by decide) ?_
        refine lv_icmp_ne (tgt := 45) X.1 X.2.1 dX9_type_39 (by decide) (fun c10 => ?_) (fun c10 => ?_)
        · have hf := ite_f hf c10
          refine lv_aload_n X.1 X.2.1 dX9_type_45 rfl (lv_at hl 0 rfl) ?_
          refine z_get X hK hP hiX9 0 rfl rfl 1 (by decide) (bw_in W6_17) rfl dX9_type_46 ?_
          refine lv_bipush (v := 31) X.1 X.2.1 dX9_type_49 (by decide) ?_
          refine lv_iload_n X.1 X.2.1 dX9_type_51 rfl (lv_at hl 1 rfl) ?_
          refine lv_imul X.1 X.2.1 dX9_type_52 ?_
          refine lv_aload_n X.1 X.2.1 dX9_type_53 rfl (lv_at hl 0 rfl) ?_
          refine z_get X hK hP hiX9 0 rfl rfl 0 (by decide) (bw_in W6_16) rfl dX9_type_54 ?_
          refine lv_iload_n X.1 X.2.1 dX9_type_57 rfl (lv_at hl 1 rfl) ?_
          obtain ⟨hi12, hf⟩ := chk_e hf
          obtain ⟨v11, ev11, hf⟩ := stp_e hf
          refine z_iald X hK hP 1 rfl hi12 ev11 dX9_type_58 ?_
          refine lv_iadd X.1 X.2.1 dX9_type_59 ?_
          refine lv_iload_n X.1 X.2.1 dX9_type_60 rfl (lv_at hl 2 rfl) ?_
          obtain ⟨hi13, hf⟩ := chk_e hf
          obtain ⟨s14, es14, hf⟩ := stp_e hf
          refine z_iast (ws' := wbX9 K aM s14) X hK hP hD hS 2 rfl hi13 dX9_type_61 (by rw [es14]; rfl) (fun H locs hP hD hS => ?_)
          refine lv_aload_n X.1 X.2.1 dX9_type_62 rfl (lv_at hl 0 rfl) ?_
          refine z_get X hK hP hiX9 0 rfl rfl 0 (by decide) (bw_in W6_16) rfl dX9_type_63 ?_
          refine lv_iload_n X.1 X.2.1 dX9_type_66 rfl (lv_at hl 1 rfl) ?_
          refine lv_dup2_11 X.1 X.2.1 dX9_type_67 rfl rfl ?_
          obtain ⟨hi16, hf⟩ := chk_e hf
          obtain ⟨v15, ev15, hf⟩ := stp_e hf
          refine z_iald X hK hP 1 rfl hi16 ev15 dX9_type_68 ?_
          refine lv_iconst (v := 1) X.1 X.2.1 dX9_type_69 (by decide) ?_
          refine lv_iadd X.1 X.2.1 dX9_type_70 ?_
          obtain ⟨hi17, hf⟩ := chk_e hf
          obtain ⟨s18, es18, hf⟩ := stp_e hf
          refine z_iast (ws' := wbX9 K aM s18) X hK hP hD hS 1 rfl hi17 dX9_type_71 (by rw [es18]; rfl) (fun H locs hP hD hS => ?_)
          refine lv_aload_n X.1 X.2.1 dX9_type_72 rfl (lv_at hl 0 rfl) ?_
          refine z_get X hK hP hiX9 0 rfl rfl 0 (by decide) (bw_in W6_16) rfl dX9_type_73 ?_
          refine lv_iload_n X.1 X.2.1 dX9_type_76 rfl (lv_at hl 1 rfl) ?_
          obtain ⟨hi20, hf⟩ := chk_e hf
          obtain ⟨v19, ev19, hf⟩ := stp_e hf
          refine z_iald X hK hP 1 rfl hi20 ev19 dX9_type_77 ?_
          obtain ⟨rfl, rfl⟩ := z_inj2 hf
          exact z_iret X hr hlk hP hD hS dX9_type_78
        · have hf := ite_t hf c10
          refine lv_bipush (v := -4) X.1 X.2.1 dX9_type_42 (by decide) ?_
          obtain ⟨rfl, rfl⟩ := z_inj2 hf
          exact z_iret X hr hlk hP hD hS dX9_type_44
      · have hf := ite_t hf c9
        refine lv_bipush (v := 20) X.1 X.2.1 dX9_type_32 (by decide) ?_
        refine lv_goto (tgt := 39) X.1 X.2.1 dX9_type_34 (by decide) ?_
        refine lv_icmp_ne (tgt := 45) X.1 X.2.1 dX9_type_39 (by decide) (fun c21 => ?_) (fun c21 => ?_)
        · have hf := ite_f hf c21
          refine lv_aload_n X.1 X.2.1 dX9_type_45 rfl (lv_at hl 0 rfl) ?_
          refine z_get X hK hP hiX9 0 rfl rfl 1 (by decide) (bw_in W6_17) rfl dX9_type_46 ?_
          refine lv_bipush (v := 31) X.1 X.2.1 dX9_type_49 (by decide) ?_
          refine lv_iload_n X.1 X.2.1 dX9_type_51 rfl (lv_at hl 1 rfl) ?_
          refine lv_imul X.1 X.2.1 dX9_type_52 ?_
          refine lv_aload_n X.1 X.2.1 dX9_type_53 rfl (lv_at hl 0 rfl) ?_
          refine z_get X hK hP hiX9 0 rfl rfl 0 (by decide) (bw_in W6_16) rfl dX9_type_54 ?_
          refine lv_iload_n X.1 X.2.1 dX9_type_57 rfl (lv_at hl 1 rfl) ?_
          obtain ⟨hi23, hf⟩ := chk_e hf
          obtain ⟨v22, ev22, hf⟩ := stp_e hf
          refine z_iald X hK hP 1 rfl hi23 ev22 dX9_type_58 ?_
          refine lv_iadd X.1 X.2.1 dX9_type_59 ?_
          refine lv_iload_n X.1 X.2.1 dX9_type_60 rfl (lv_at hl 2 rfl) ?_
          obtain ⟨hi24, hf⟩ := chk_e hf
          obtain ⟨s25, es25, hf⟩ := stp_e hf
          refine z_iast (ws' := wbX9 K aM s25) X hK hP hD hS 2 rfl hi24 dX9_type_61 (by rw [es25]; rfl) (fun H locs hP hD hS => ?_)
          refine lv_aload_n X.1 X.2.1 dX9_type_62 rfl (lv_at hl 0 rfl) ?_
          refine z_get X hK hP hiX9 0 rfl rfl 0 (by decide) (bw_in W6_16) rfl dX9_type_63 ?_
          refine lv_iload_n X.1 X.2.1 dX9_type_66 rfl (lv_at hl 1 rfl) ?_
          refine lv_dup2_11 X.1 X.2.1 dX9_type_67 rfl rfl ?_
          obtain ⟨hi27, hf⟩ := chk_e hf
          obtain ⟨v26, ev26, hf⟩ := stp_e hf
          refine z_iald X hK hP 1 rfl hi27 ev26 dX9_type_68 ?_
          refine lv_iconst (v := 1) X.1 X.2.1 dX9_type_69 (by decide) ?_
          refine lv_iadd X.1 X.2.1 dX9_type_70 ?_
          obtain ⟨hi28, hf⟩ := chk_e hf
          obtain ⟨s29, es29, hf⟩ := stp_e hf
          refine z_iast (ws' := wbX9 K aM s29) X hK hP hD hS 1 rfl hi28 dX9_type_71 (by rw [es29]; rfl) (fun H locs hP hD hS => ?_)
          refine lv_aload_n X.1 X.2.1 dX9_type_72 rfl (lv_at hl 0 rfl) ?_
          refine z_get X hK hP hiX9 0 rfl rfl 0 (by decide) (bw_in W6_16) rfl dX9_type_73 ?_
          refine lv_iload_n X.1 X.2.1 dX9_type_76 rfl (lv_at hl 1 rfl) ?_
          obtain ⟨hi31, hf⟩ := chk_e hf
          obtain ⟨v30, ev30, hf⟩ := stp_e hf
          refine z_iald X hK hP 1 rfl hi31 ev30 dX9_type_77 ?_
          obtain ⟨rfl, rfl⟩ := z_inj2 hf
          exact z_iret X hr hlk hP hD hS dX9_type_78
        · have hf := ite_t hf c21
          refine lv_bipush (v := -4) X.1 X.2.1 dX9_type_42 (by decide) ?_
          obtain ⟨rfl, rfl⟩ := z_inj2 hf
          exact z_iret X hr hlk hP hD hS dX9_type_44
    · have hf := ite_t hf c6
      refine lv_bipush (v := -2) X.1 X.2.1 dX9_type_18 (by decide) ?_
      obtain ⟨rfl, rfl⟩ := z_inj2 hf
      exact z_iret X hr hlk hP hD hS dX9_type_20
abbrev rmX9_undo : Room := { frames := 2, cells := 0, slots := 0, locals := 42 }
set_option maxHeartbeats 4000000 in
set_option maxRecDepth 100000 in
theorem kX9_undo (l : Launch) (D : va_G) (K : Nat → ClassId) (aM : Nat → Nat) (s0 : St) (sz : Nat) (x1 : Int32) (q_ : Int32) (s_ : St) (hf : fX9_undo s0 x1 = some (q_, s_)) : Met l yX9_undo (bw (Cond.code yX9_undo cX9_undo 2 (some .int))) rmX9_undo (va_Pc [.ref (aM 0), .int x1] (zB D K sz (wbX9 K aM s0))) (zQ (some (.int q_)) D (va_A (wbX9 K aM s0) sz) (wbX9 K aM s_)) 0 0 (va_A (wbX9 K aM s0) sz) := by
  refine z_of (cc := cX9_undo) (maxL := 2) (ret := (some .int)) (own := RX9) (lv := [(0, .ref (aM 0)), (1, .int x1)]) (by decide) rfl rfl (Nat.le_of_ble_eq_true rfl) rfl ?_
  intro p e s m below meth c X hr hlk hK hN hsz hP hD hA hS hin ls hl
  generalize va_A (wbX9 K aM s0) sz = A at hD hA hS hN ⊢
  have hiX9 : ∀ w ∈ u_ws RX9 TX9 44, w ∈ (bw (Cond.code yX9_undo cX9_undo 2 (some .int))) := fun w h => bw_in (inlX9 w h)
  rw [fX9_undo] at hf
  refine lv_iload_n X.1 X.2.1 dX9_undo_0 rfl (lv_at hl 1 rfl) ?_
  obtain ⟨r1, hc2, hf⟩ := bd1_e hf
  refine z_S (n := 1) (As := [.int x1]) (rest := []) X hK hN (kX9_isText l D K _ x1 r1 hc2) (bw_S W8_14 W8_15 W1_5 W8_16) rfl ⟨rfl, rfl⟩ (by decide +kernel) rfl ⟨Nat.le_of_ble_eq_true rfl, Nat.le_of_ble_eq_true rfl⟩ (fun _ _ h => by simp at h) ⟨fun _ _ _ _ h => by simp at h, fun _ _ h => by simp at h⟩ (zj_none hP hD hS hA) hS hl.1 rfl (Nat.le_of_ble_eq_true rfl) dX9_undo_1 ⟨Nat.zero_le _, Nat.zero_le _⟩ rfl (fun H locs hP hD hS => ?_)
  refine lv_if_ne (tgt := 10) X.1 X.2.1 dX9_undo_4 (by decide) (fun c3 => ?_) (fun c3 => ?_)
  · have hf := ite_f hf c3
    refine lv_aload_n X.1 X.2.1 dX9_undo_10 rfl (lv_at hl 0 rfl) ?_
    refine z_get X hK hP hiX9 0 rfl rfl 0 (by decide) (bw_in W6_16) rfl dX9_undo_11 ?_
    refine lv_iload_n X.1 X.2.1 dX9_undo_14 rfl (lv_at hl 1 rfl) ?_
    obtain ⟨hi5, hf⟩ := chk_e hf
    obtain ⟨v4, ev4, hf⟩ := stp_e hf
    refine z_iald X hK hP 1 rfl hi5 ev4 dX9_undo_15 ?_
    refine lv_if_ne (tgt := 22) X.1 X.2.1 dX9_undo_16 (by decide) (fun c6 => ?_) (fun c6 => ?_)
    · have hf := ite_f hf c6
      refine lv_aload_n X.1 X.2.1 dX9_undo_22 rfl (lv_at hl 0 rfl) ?_
      refine z_get X hK hP hiX9 0 rfl rfl 0 (by decide) (bw_in W6_16) rfl dX9_undo_23 ?_
      refine lv_iload_n X.1 X.2.1 dX9_undo_26 rfl (lv_at hl 1 rfl) ?_
      refine lv_dup2_11 X.1 X.2.1 dX9_undo_27 rfl rfl ?_
      obtain ⟨hi8, hf⟩ := chk_e hf
      obtain ⟨v7, ev7, hf⟩ := stp_e hf
      refine z_iald X hK hP 1 rfl hi8 ev7 dX9_undo_28 ?_
      refine lv_iconst (v := 1) X.1 X.2.1 dX9_undo_29 (by decide) ?_
      refine lv_isub X.1 X.2.1 dX9_undo_30 ?_
      obtain ⟨hi9, hf⟩ := chk_e hf
      obtain ⟨s10, es10, hf⟩ := stp_e hf
      refine z_iast (ws' := wbX9 K aM s10) X hK hP hD hS 1 rfl hi9 dX9_undo_31 (by rw [es10]; rfl) (fun H locs hP hD hS => ?_)
      refine lv_aload_n X.1 X.2.1 dX9_undo_32 rfl (lv_at hl 0 rfl) ?_
      refine z_get X hK hP hiX9 0 rfl rfl 0 (by decide) (bw_in W6_16) rfl dX9_undo_33 ?_
      refine lv_iload_n X.1 X.2.1 dX9_undo_36 rfl (lv_at hl 1 rfl) ?_
      obtain ⟨hi12, hf⟩ := chk_e hf
      obtain ⟨v11, ev11, hf⟩ := stp_e hf
      refine z_iald X hK hP 1 rfl hi12 ev11 dX9_undo_37 ?_
      obtain ⟨rfl, rfl⟩ := z_inj2 hf
      exact z_iret X hr hlk hP hD hS dX9_undo_38
    · have hf := ite_t hf c6
      refine lv_bipush (v := -3) X.1 X.2.1 dX9_undo_19 (by decide) ?_
      obtain ⟨rfl, rfl⟩ := z_inj2 hf
      exact z_iret X hr hlk hP hD hS dX9_undo_21
  · have hf := ite_t hf c3
    refine lv_bipush (v := -2) X.1 X.2.1 dX9_undo_7 (by decide) ?_
    obtain ⟨rfl, rfl⟩ := z_inj2 hf
    exact z_iret X hr hlk hP hD hS dX9_undo_9
abbrev rmX9_weigh : Room := { frames := 9, cells := 0, slots := 0, locals := 213 }
set_option maxHeartbeats 4000000 in
set_option maxRecDepth 100000 in
theorem kX9_weigh (l : Launch) (D : va_G) (K : Nat → ClassId) (aM : Nat → Nat) (s0 : St) (sz : Nat)  (q_ : Int32) (s_ : St) (hf : fX9_weigh s0 = some (q_, s_)) : Met l yX9_weigh (bw (Cond.code yX9_weigh cX9_weigh 1 (some .int))) rmX9_weigh (va_Pc [.ref (aM 0)] (zB D K sz (wbX9 K aM s0))) (zQ (some (.int q_)) D (va_A (wbX9 K aM s0) sz) (wbX9 K aM s_)) 0 0 (va_A (wbX9 K aM s0) sz) := by
  refine z_of (cc := cX9_weigh) (maxL := 1) (ret := (some .int)) (own := RX9) (lv := [(0, .ref (aM 0))]) (by decide) rfl rfl (Nat.le_of_ble_eq_true rfl) rfl ?_
  intro p e s m below meth c X hr hlk hK hN hsz hP hD hA hS hin ls hl
  generalize va_A (wbX9 K aM s0) sz = A at hD hA hS hN ⊢
  rw [fX9_weigh] at hf
  refine lv_aload_n X.1 X.2.1 dX9_weigh_0 rfl (lv_at hl 0 rfl) ?_
  obtain ⟨r1, s2, hc3, hf⟩ := bd2_e hf
  refine z_V (n := 0) (As := []) (rest := []) (ci := 9) (q0 := 0) X hK hN (kX9_weighNow l D K aM s0 _ r1 s2 hc3) (bw_V W35_19 W35_20 W35_21 W1_5 W35_22) rfl ⟨rfl, rfl⟩ (by decide +kernel) rfl ⟨Nat.le_of_ble_eq_true rfl, Nat.le_of_ble_eq_true rfl⟩ hP hD rfl rfl (zj_same hD hS hA) hS hl.1 rfl (Nat.le_of_ble_eq_true rfl) dX9_weigh_1 ⟨Nat.zero_le _, Nat.zero_le _⟩ rfl (fun H locs hP hD hS => ?_)
  obtain ⟨rfl, rfl⟩ := z_inj2 hf
  exact z_iret X hr hlk hP hD hS dX9_weigh_4
