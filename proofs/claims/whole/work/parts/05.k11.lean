abbrev rmX8_maybe : Room := { frames := 6, cells := 0, slots := 0, locals := 148 }
set_option maxHeartbeats 4000000 in
set_option maxRecDepth 100000 in
theorem kX8_maybe (l : Launch) (D : va_G) (K : Nat → ClassId) (g : Nat → Nat → Nat) (z0 : Nat → St) (y0 : Nat → Lt) (sz : Nat) (x1 : Int32) (x2 : Int32) (x3 : Int32) (x4 : Int32) (q_ : Int64) (z_ : Nat → St) (y_ : Nat → Lt) (hf : fX8_maybe z0 y0 x1 x2 x3 x4 = some (q_, z_, y_)) : Met l yX8_maybe (bw (Cond.code yX8_maybe cX8_maybe 5 (some .long))) rmX8_maybe (va_Pc [.ref (g 0 0), .int x1, .int x2, .int x3, .int x4] (zB D K sz (wbALL K g z0 y0))) (zQ (some (.long q_)) D (va_A (wbALL K g z0 y0) sz) (wbALL K g z_ y_)) 0 0 (va_A (wbALL K g z0 y0) sz) := by
  refine z_of (cc := cX8_maybe) (maxL := 5) (ret := (some .long)) (own := RX8) (lv := [(0, .ref (g 0 0)), (1, .int x1), (2, .int x2), (3, .int x3), (4, .int x4)]) (by decide) rfl rfl (Nat.le_of_ble_eq_true rfl) rfl ?_
  intro p e s m below meth c X hr hlk hK hN hsz hP hD hA hS hin ls hl
  generalize va_A (wbALL K g z0 y0) sz = A at hD hA hS hN ⊢
  have hiX0 : ∀ w ∈ u_ws RX0 TX0 6, w ∈ (bw (Cond.code yX8_maybe cX8_maybe 5 (some .long))) := fun w h => bw_in (inlX0 w h)
  have hiX8 : ∀ w ∈ u_ws RX8 TX8 11, w ∈ (bw (Cond.code yX8_maybe cX8_maybe 5 (some .long))) := fun w h => bw_in (inlX8 w h)
  rw [fX8_maybe] at hf
  refine lv_aload_n X.1 X.2.1 dX8_maybe_0 rfl (lv_at hl 0 rfl) ?_
  obtain ⟨z1, hc2, hf⟩ := bd1_e hf
  refine z_V (n := 0) (As := []) (rest := []) (ci := 8) (q0 := 0) X hK hN (kX8_freshen l D K g z0 y0 _ z1 hc2) (bw_V W11_14 W11_15 W11_16 W1_2 W11_17) rfl ⟨rfl, rfl⟩ (by decide +kernel) rfl ⟨Nat.le_of_ble_eq_true rfl, Nat.le_of_ble_eq_true rfl⟩ hP hD rfl rfl (zj_same hD hS hA) hS hl.1 rfl (Nat.le_of_ble_eq_true rfl) dX8_maybe_1 ⟨Nat.zero_le _, Nat.zero_le _⟩ rfl (fun H locs hP hD hS => ?_)
  refine lv_iload_n X.1 X.2.1 dX8_maybe_4 rfl (lv_at hl 1 rfl) ?_
  refine lv_if_lt (tgt := 40) X.1 X.2.1 dX8_maybe_5 (by decide) (fun c3 => ?_) (fun c3 => ?_)
  · have hf := ite_t hf c3
    refine lv_ldc2 (v := -9223372036854775806) X.1 X.2.1 X.2.2.2.1 (X.2.2.2.2 _ (bw_in W36_3)) dX8_maybe_40 ?_
    obtain ⟨rfl, rfl, rfl⟩ := z_inj3 hf
    exact z_lret X hr hlk hP hD hS dX8_maybe_43
  · have hf := ite_f hf c3
    refine lv_iload_n X.1 X.2.1 dX8_maybe_8 rfl (lv_at hl 1 rfl) ?_
    refine lv_bipush (v := 16) X.1 X.2.1 dX8_maybe_9 (by decide) ?_
    refine lv_icmp_gt (tgt := 40) X.1 X.2.1 dX8_maybe_11 (by decide) (fun c4 => ?_) (fun c4 => ?_)
    · have hf := ite_t hf c4
      refine lv_ldc2 (v := -9223372036854775806) X.1 X.2.1 X.2.2.2.1 (X.2.2.2.2 _ (bw_in W36_3)) dX8_maybe_40 ?_
      obtain ⟨rfl, rfl, rfl⟩ := z_inj3 hf
      exact z_lret X hr hlk hP hD hS dX8_maybe_43
    · have hf := ite_f hf c4
      refine lv_aload_n X.1 X.2.1 dX8_maybe_14 rfl (lv_at hl 0 rfl) ?_
      refine lv_iload_n X.1 X.2.1 dX8_maybe_15 rfl (lv_at hl 2 rfl) ?_
      obtain ⟨r5, hc6, hf⟩ := bd1_e hf
      refine z_V (n := 1) (As := [.int x2]) (rest := []) (ci := 8) (q0 := 0) X hK hN (kX8_noSuchRider l D K g z1 y0 _ x2 r5 hc6) (bw_V W16_0 W16_1 W16_2 W1_2 W16_3) rfl ⟨rfl, rfl⟩ (by decide +kernel) rfl ⟨Nat.le_of_ble_eq_true rfl, Nat.le_of_ble_eq_true rfl⟩ hP hD rfl rfl (zj_same hD hS hA) hS hl.1 rfl (Nat.le_of_ble_eq_true rfl) dX8_maybe_16 ⟨Nat.zero_le _, Nat.zero_le _⟩ rfl (fun H locs hP hD hS => ?_)
      refine lv_if_ne (tgt := 40) X.1 X.2.1 dX8_maybe_19 (by decide) (fun c7 => ?_) (fun c7 => ?_)
      · have hf := ite_f hf c7
        refine lv_ldc2 (v := -9223372036854775806) X.1 X.2.1 X.2.2.2.1 (X.2.2.2.2 _ (bw_in W36_3)) dX8_maybe_40 ?_
        obtain ⟨rfl, rfl, rfl⟩ := z_inj3 hf
        exact z_lret X hr hlk hP hD hS dX8_maybe_43
      · have hf := ite_t hf c7
        refine lv_iload_n X.1 X.2.1 dX8_maybe_22 rfl (lv_at hl 3 rfl) ?_
        obtain ⟨r8, hc9, hf⟩ := bd1_e hf
        refine z_S (n := 1) (As := [.int x3]) (rest := []) X hK hN (kX8_noSuchStep l D K _ x3 r8 hc9) (bw_S W18_20 W18_21 W1_2 W18_22) rfl ⟨rfl, rfl⟩ (by decide +kernel) rfl ⟨Nat.le_of_ble_eq_true rfl, Nat.le_of_ble_eq_true rfl⟩ (fun _ _ h => by simp at h) ⟨fun _ _ _ _ h => by simp at h, fun _ _ h => by simp at h⟩ (zj_none hP hD hS hA) hS hl.1 rfl (Nat.le_of_ble_eq_true rfl) dX8_maybe_23 ⟨Nat.zero_le _, Nat.zero_le _⟩ rfl (fun H locs hP hD hS => ?_)
        refine lv_if_ne (tgt := 40) X.1 X.2.1 dX8_maybe_26 (by decide) (fun c10 => ?_) (fun c10 => ?_)
        · have hf := ite_f hf c10
          refine lv_ldc2 (v := -9223372036854775806) X.1 X.2.1 X.2.2.2.1 (X.2.2.2.2 _ (bw_in W36_3)) dX8_maybe_40 ?_
          obtain ⟨rfl, rfl, rfl⟩ := z_inj3 hf
          exact z_lret X hr hlk hP hD hS dX8_maybe_43
        · have hf := ite_t hf c10
          refine lv_iload X.1 X.2.1 dX8_maybe_29 (lv_at hl 4 rfl) ?_
          refine lv_if_lt (tgt := 40) X.1 X.2.1 dX8_maybe_31 (by decide) (fun c11 => ?_) (fun c11 => ?_)
          · have hf := ite_t hf c11
            refine lv_ldc2 (v := -9223372036854775806) X.1 X.2.1 X.2.2.2.1 (X.2.2.2.2 _ (bw_in W36_3)) dX8_maybe_40 ?_
            obtain ⟨rfl, rfl, rfl⟩ := z_inj3 hf
            exact z_lret X hr hlk hP hD hS dX8_maybe_43
          · have hf := ite_f hf c11
            refine lv_iload X.1 X.2.1 dX8_maybe_34 (lv_at hl 4 rfl) ?_
            refine lv_iconst (v := 1) X.1 X.2.1 dX8_maybe_36 (by decide) ?_
            refine lv_icmp_le (tgt := 44) X.1 X.2.1 dX8_maybe_37 (by decide) (fun c12 => ?_) (fun c12 => ?_)
            · have hf := ite_t hf c12
              refine lv_aload_n X.1 X.2.1 dX8_maybe_44 rfl (lv_at hl 0 rfl) ?_
              refine z_get X hK hP hiX8 0 rfl rfl 6 (by decide) (bw_in W2_8) rfl dX8_maybe_45 ?_
              refine lv_iload_n X.1 X.2.1 dX8_maybe_48 rfl (lv_at hl 1 rfl) ?_
              refine lv_iload_n X.1 X.2.1 dX8_maybe_49 rfl (lv_at hl 2 rfl) ?_
              refine lv_iload_n X.1 X.2.1 dX8_maybe_50 rfl (lv_at hl 3 rfl) ?_
              obtain ⟨r13, c14, cL15, hc16, hf⟩ := bd3_e hf
              obtain ⟨z17, ez17, hf⟩ := stp_e hf
              obtain ⟨z18, ez18, hf⟩ := stp_e hf
              obtain ⟨y19, ey19, hf⟩ := stp_e hf
              have hp20 : List.Perm (wbALL K g z1 y0) ((wbX2 K (g 8) (z1 8) ++ (wbX4 K (g 8 0) (g 10) (z1 10) ++ (wbX0 K (g 8 0) (g 10 0) (g 12) (z1 12) (y0 12)))) ++ ([0, 1, 2, 3, 4, 5, 6, 7, 9, 11, 13, 14].map (bfALL K g z1 y0)).flatten) := by rw [asc3]; exact wbALL_perm [8, 10, 12, 0, 1, 2, 3, 4, 5, 6, 7, 9, 11, 13, 14] (by decide)
              refine z_V (n := 3) (As := [.int x1, .int x2, .int x3]) (rest := []) (ci := 0) (q0 := 19) X hK hN (kX0_work l D K (g 8) (g 10) (g 12) (z1 8) (z1 10) (z1 12) (y0 12) _ x1 x2 x3 r13 c14 cL15 hc16) (bw_V W36_6 W36_7 W36_8 W2_7 W36_9) rfl ⟨rfl, rfl⟩ (by decide +kernel) rfl ⟨Nat.le_of_ble_eq_true rfl, Nat.le_of_ble_eq_true rfl⟩ (hP.perm hp20).lef (hD.perm hp20).lef rfl rfl (zj_perm (ws' := wbALL K g z18 y19) hP hD hS hA hp20 (by rw [ey19, ez18, ez17, asc3]; refine List.Perm.symm ?_; exact wbALL_perm [8, 10, 12, 0, 1, 2, 3, 4, 5, 6, 7, 9, 11, 13, 14] (by decide))) hS hl.1 rfl (Nat.le_of_ble_eq_true rfl) dX8_maybe_51 ⟨Nat.zero_le _, Nat.zero_le _⟩ rfl (fun H locs hP hD hS => ?_)
              refine lv_iload X.1 X.2.1 dX8_maybe_54 (lv_at hl 4 rfl) ?_
              refine lv_if_ne (tgt := 69) X.1 X.2.1 dX8_maybe_56 (by decide) (fun c21 => ?_) (fun c21 => ?_)
              · have hf := ite_f hf c21
                refine lv_aload_n X.1 X.2.1 dX8_maybe_69 rfl (lv_at hl 0 rfl) ?_
                refine z_get X hK hP hiX8 0 rfl rfl 6 (by decide) (bw_in W2_8) rfl dX8_maybe_70 ?_
                refine z_get X hK hP hiX0 50 rfl rfl 5 (by decide) (bw_in W36_5) rfl dX8_maybe_73 ?_
                obtain ⟨rfl, rfl, rfl⟩ := z_inj3 hf
                exact z_lret X hr hlk hP hD hS dX8_maybe_76
              · have hf := ite_t hf c21
                refine lv_aload_n X.1 X.2.1 dX8_maybe_59 rfl (lv_at hl 0 rfl) ?_
                refine z_get X hK hP hiX8 0 rfl rfl 6 (by decide) (bw_in W2_8) rfl dX8_maybe_60 ?_
                refine z_get X hK hP hiX0 50 rfl rfl 4 (by decide) (bw_in W36_4) rfl dX8_maybe_63 ?_
                refine lv_goto (tgt := 76) X.1 X.2.1 dX8_maybe_66 (by decide) ?_
                obtain ⟨rfl, rfl, rfl⟩ := z_inj3 hf
                exact z_lret X hr hlk hP hD hS dX8_maybe_76
            · have hf := ite_f hf c12
              refine lv_ldc2 (v := -9223372036854775806) X.1 X.2.1 X.2.2.2.1 (X.2.2.2.2 _ (bw_in W36_3)) dX8_maybe_40 ?_
              obtain ⟨rfl, rfl, rfl⟩ := z_inj3 hf
              exact z_lret X hr hlk hP hD hS dX8_maybe_43
abbrev rmX8_noSuchText : Room := { frames := 0, cells := 0, slots := 0, locals := 0 }
set_option maxHeartbeats 4000000 in
set_option maxRecDepth 100000 in
theorem kX8_noSuchText (l : Launch) (D : va_G) (K : Nat → ClassId)   (sz : Nat) (x1 : Int32) (q_ : Int32) (hf : fX8_noSuchText x1 = some q_) : Met l yX8_noSuchText (bw (Cond.code yX8_noSuchText cX8_noSuchText 1 (some .boolean))) rmX8_noSuchText (va_Pc [.int x1] (zB D K sz (([] : va_W)))) (zQ (some (.int q_)) D (va_A (([] : va_W)) sz) (([] : va_W))) 0 0 (va_A (([] : va_W)) sz) := by
  refine z_of (cc := cX8_noSuchText) (maxL := 1) (ret := (some .boolean)) (own := RX8) (lv := [(0, .int x1)]) (by decide) rfl rfl (Nat.le_of_ble_eq_true rfl) rfl ?_
  intro p e s m below meth c X hr hlk hK hN hsz hP hD hA hS hin ls hl
  generalize va_A (([] : va_W)) sz = A at hD hA hS hN ⊢
  rw [fX8_noSuchText] at hf
  refine lv_iload_n X.1 X.2.1 dX8_noSuchText_0 rfl (lv_at hl 0 rfl) ?_
  refine lv_if_lt (tgt := 9) X.1 X.2.1 dX8_noSuchText_1 (by decide) (fun c1 => ?_) (fun c1 => ?_)
  · have hf := ite_t hf c1
    refine lv_iconst (v := 1) X.1 X.2.1 dX8_noSuchText_9 (by decide) ?_
    refine lv_goto (tgt := 14) X.1 X.2.1 dX8_noSuchText_10 (by decide) ?_
    obtain rfl := z_inj1 hf
    exact z_zret X hr hlk (by decide) hP hD hS dX8_noSuchText_14
  · have hf := ite_f hf c1
    refine lv_iload_n X.1 X.2.1 dX8_noSuchText_4 rfl (lv_at hl 0 rfl) ?_
    refine lv_iconst (v := 3) X.1 X.2.1 dX8_noSuchText_5 (by decide) ?_
    refine lv_icmp_lt (tgt := 13) X.1 X.2.1 dX8_noSuchText_6 (by decide) (fun c2 => ?_) (fun c2 => ?_)
    · have hf := ite_t hf c2
      refine lv_iconst (v := 0) X.1 X.2.1 dX8_noSuchText_13 (by decide) ?_
      obtain rfl := z_inj1 hf
      exact z_zret X hr hlk (by decide) hP hD hS dX8_noSuchText_14
    · have hf := ite_f hf c2
      refine lv_iconst (v := 1) X.1 X.2.1 dX8_noSuchText_9 (by decide) ?_
      refine lv_goto (tgt := 14) X.1 X.2.1 dX8_noSuchText_10 (by decide) ?_
      obtain rfl := z_inj1 hf
      exact z_zret X hr hlk (by decide) hP hD hS dX8_noSuchText_14
abbrev rmX8_fault : Room := { frames := 2, cells := 0, slots := 0, locals := 46 }
set_option maxHeartbeats 4000000 in
set_option maxRecDepth 100000 in
theorem kX8_fault (l : Launch) (D : va_G) (K : Nat → ClassId) (g : Nat → Nat → Nat) (z0 : Nat → St) (y0 : Nat → Lt) (sz : Nat) (x1 : Int32) (q_ : Int32) (hf : fX8_fault z0 y0 x1 = some q_) : Met l yX8_fault (bw (Cond.code yX8_fault cX8_fault 2 (some .int))) rmX8_fault (va_Pc [.ref (g 0 0), .int x1] (zB D K sz (wbALL K g z0 y0))) (zQ (some (.int q_)) D (va_A (wbALL K g z0 y0) sz) (wbALL K g z0 y0)) 0 0 (va_A (wbALL K g z0 y0) sz) := by
  refine z_of (cc := cX8_fault) (maxL := 2) (ret := (some .int)) (own := RX8) (lv := [(0, .ref (g 0 0)), (1, .int x1)]) (by decide) rfl rfl (Nat.le_of_ble_eq_true rfl) rfl ?_
  intro p e s m below meth c X hr hlk hK hN hsz hP hD hA hS hin ls hl
  generalize va_A (wbALL K g z0 y0) sz = A at hD hA hS hN ⊢
  have hiX8 : ∀ w ∈ u_ws RX8 TX8 11, w ∈ (bw (Cond.code yX8_fault cX8_fault 2 (some .int))) := fun w h => bw_in (inlX8 w h)
  rw [fX8_fault] at hf
  refine lv_iload_n X.1 X.2.1 dX8_fault_0 rfl (lv_at hl 1 rfl) ?_
  obtain ⟨r1, hc2, hf⟩ := bd1_e hf
  refine z_S (n := 1) (As := [.int x1]) (rest := []) X hK hN (kX8_noSuchText l D K _ x1 r1 hc2) (bw_S W8_3 W8_4 W1_2 W8_5) rfl ⟨rfl, rfl⟩ (by decide +kernel) rfl ⟨Nat.le_of_ble_eq_true rfl, Nat.le_of_ble_eq_true rfl⟩ (fun _ _ h => by simp at h) ⟨fun _ _ _ _ h => by simp at h, fun _ _ h => by simp at h⟩ (zj_none hP hD hS hA) hS hl.1 rfl (Nat.le_of_ble_eq_true rfl) dX8_fault_1 ⟨Nat.zero_le _, Nat.zero_le _⟩ rfl (fun H locs hP hD hS => ?_)
  refine lv_if_eq (tgt := 12) X.1 X.2.1 dX8_fault_4 (by decide) (fun c3 => ?_) (fun c3 => ?_)
  · have hf := ite_t hf c3
    refine lv_aload_n X.1 X.2.1 dX8_fault_12 rfl (lv_at hl 0 rfl) ?_
    refine z_get X hK hP hiX8 0 rfl rfl 0 (by decide) (bw_in W1_13) rfl dX8_fault_13 ?_
    refine lv_iload_n X.1 X.2.1 dX8_fault_16 rfl (lv_at hl 1 rfl) ?_
    by_cases c4 : x1 = 0
    · have hf := ite_t hf c4
      refine z_aald X hK hP 1 4 rfl rfl (by rw [c4]; exact vp_lit _ _ (by decide)) (by rw [c4] <;> rfl) dX8_fault_17 ?_
      obtain ⟨r5, hc6, hf⟩ := bd1_e hf
      have hp7 : List.Perm (wbALL K g z0 y0) ((wbX7 K (g 1) (z0 1)) ++ ([0, 2, 3, 4, 5, 6, 7, 8, 9, 10, 11, 12, 13, 14].map (bfALL K g z0 y0)).flatten) := wbALL_perm [1, 0, 2, 3, 4, 5, 6, 7, 8, 9, 10, 11, 12, 13, 14] (by decide)
      refine z_V (n := 0) (As := []) (rest := []) (ci := 7) (q0 := 0) X hK hN (kX7_firstFault l D K (g 1) (z0 1) _ r5 hc6) (bw_V W9_16 W9_17 W9_18 W2_20 W9_19) rfl ⟨rfl, rfl⟩ (by decide +kernel) rfl ⟨Nat.le_of_ble_eq_true rfl, Nat.le_of_ble_eq_true rfl⟩ (hP.perm hp7).lef (hD.perm hp7).lef rfl rfl (zj_perm (ws' := wbALL K g z0 y0) hP hD hS hA hp7 (by refine List.Perm.symm ?_; exact wbALL_perm [1, 0, 2, 3, 4, 5, 6, 7, 8, 9, 10, 11, 12, 13, 14] (by decide))) hS hl.1 rfl (Nat.le_of_ble_eq_true rfl) dX8_fault_18 ⟨Nat.zero_le _, Nat.zero_le _⟩ rfl (fun H locs hP hD hS => ?_)
      obtain rfl := z_inj1 hf
      exact z_iret X hr hlk hP hD hS dX8_fault_21
    have hf := ite_f hf c4
    by_cases c8 : x1 = 1
    · have hf := ite_t hf c8
      refine z_aald X hK hP 1 4 rfl rfl (by rw [c8]; exact vp_lit _ _ (by decide)) (by rw [c8] <;> rfl) dX8_fault_17 ?_
      obtain ⟨r9, hc10, hf⟩ := bd1_e hf
      have hp11 : List.Perm (wbALL K g z0 y0) ((wbX7 K (g 2) (z0 2)) ++ ([0, 1, 3, 4, 5, 6, 7, 8, 9, 10, 11, 12, 13, 14].map (bfALL K g z0 y0)).flatten) := wbALL_perm [2, 0, 1, 3, 4, 5, 6, 7, 8, 9, 10, 11, 12, 13, 14] (by decide)
      refine z_V (n := 0) (As := []) (rest := []) (ci := 7) (q0 := 0) X hK hN (kX7_firstFault l D K (g 2) (z0 2) _ r9 hc10) (bw_V W9_16 W9_17 W9_18 W2_20 W9_19) rfl ⟨rfl, rfl⟩ (by decide +kernel) rfl ⟨Nat.le_of_ble_eq_true rfl, Nat.le_of_ble_eq_true rfl⟩ (hP.perm hp11).lef (hD.perm hp11).lef rfl rfl (zj_perm (ws' := wbALL K g z0 y0) hP hD hS hA hp11 (by refine List.Perm.symm ?_; exact wbALL_perm [2, 0, 1, 3, 4, 5, 6, 7, 8, 9, 10, 11, 12, 13, 14] (by decide))) hS hl.1 rfl (Nat.le_of_ble_eq_true rfl) dX8_fault_18 ⟨Nat.zero_le _, Nat.zero_le _⟩ rfl (fun H locs hP hD hS => ?_)
      obtain rfl := z_inj1 hf
      exact z_iret X hr hlk hP hD hS dX8_fault_21
    have hf := ite_f hf c8
    by_cases c12 : x1 = 2
    · have hf := ite_t hf c12
      refine z_aald X hK hP 1 4 rfl rfl (by rw [c12]; exact vp_lit _ _ (by decide)) (by rw [c12] <;> rfl) dX8_fault_17 ?_
      obtain ⟨r13, hc14, hf⟩ := bd1_e hf
      have hp15 : List.Perm (wbALL K g z0 y0) ((wbX7 K (g 3) (z0 3)) ++ ([0, 1, 2, 4, 5, 6, 7, 8, 9, 10, 11, 12, 13, 14].map (bfALL K g z0 y0)).flatten) := wbALL_perm [3, 0, 1, 2, 4, 5, 6, 7, 8, 9, 10, 11, 12, 13, 14] (by decide)
      refine z_V (n := 0) (As := []) (rest := []) (ci := 7) (q0 := 0) X hK hN (kX7_firstFault l D K (g 3) (z0 3) _ r13 hc14) (bw_V W9_16 W9_17 W9_18 W2_20 W9_19) rfl ⟨rfl, rfl⟩ (by decide +kernel) rfl ⟨Nat.le_of_ble_eq_true rfl, Nat.le_of_ble_eq_true rfl⟩ (hP.perm hp15).lef (hD.perm hp15).lef rfl rfl (zj_perm (ws' := wbALL K g z0 y0) hP hD hS hA hp15 (by refine List.Perm.symm ?_; exact wbALL_perm [3, 0, 1, 2, 4, 5, 6, 7, 8, 9, 10, 11, 12, 13, 14] (by decide))) hS hl.1 rfl (Nat.le_of_ble_eq_true rfl) dX8_fault_18 ⟨Nat.zero_le _, Nat.zero_le _⟩ rfl (fun H locs hP hD hS => ?_)
      obtain rfl := z_inj1 hf
      exact z_iret X hr hlk hP hD hS dX8_fault_21
    have hf := ite_f hf c12
    cases hf
  · have hf := ite_f hf c3
    refine lv_bipush (v := -2) X.1 X.2.1 dX8_fault_7 (by decide) ?_
    refine lv_goto (tgt := 21) X.1 X.2.1 dX8_fault_9 (by decide) ?_
    obtain rfl := z_inj1 hf
    exact z_iret X hr hlk hP hD hS dX8_fault_21
abbrev rmX8_digest : Room := { frames := 7, cells := 0, slots := 0, locals := 172 }
set_option maxHeartbeats 4000000 in
set_option maxRecDepth 100000 in
theorem kX8_digest (l : Launch) (D : va_G) (K : Nat → ClassId) (g : Nat → Nat → Nat) (z0 : Nat → St) (y0 : Nat → Lt) (sz : Nat)  (q_ : Int64) (z_ : Nat → St) (y_ : Nat → Lt) (hf : fX8_digest z0 y0 = some (q_, z_, y_)) : Met l yX8_digest (bw (Cond.code yX8_digest cX8_digest 4 (some .long))) rmX8_digest (va_Pc [.ref (g 0 0)] (zB D K sz (wbALL K g z0 y0))) (zQ (some (.long q_)) D (va_A (wbALL K g z0 y0) sz) (wbALL K g z_ y_)) 0 0 (va_A (wbALL K g z0 y0) sz) := by
  refine z_of (cc := cX8_digest) (maxL := 4) (ret := (some .long)) (own := RX8) (lv := [(0, .ref (g 0 0))]) (by decide) rfl rfl (Nat.le_of_ble_eq_true rfl) rfl ?_
  intro p e s m below meth c X hr hlk hK hN hsz hP hD hA hS hin ls hl
  generalize va_A (wbALL K g z0 y0) sz = A at hD hA hS hN ⊢
  have L31_1 : ∀ (n : Nat), ∀ (n31_0 : Int64) (n31_1 : Int32) (q31_Z : Nat → St) (q31_ZL : Nat → Lt), fX8_digest_31 n n31_0 n31_1 q31_Z q31_ZL = some ((q_, z_, y_)) → ∀ (H : Heap) (locs : List Loc), va_P D vwCl (wbALL K g q31_Z q31_ZL) H → va_D A (wbALL K g q31_Z q31_ZL) → va_S A s.heap H locs → ∀ (ls : Array Slot), lv_has ls 4 [(0, .ref (g 0 0)), (1, .long n31_0), (3, .int n31_1)] → W p l e rmX8_digest s m ([.ref (g 0 0)] : List Value).toArray below meth c H locs 0 0 (MQ below (zQ (some (.long q_)) D A (wbALL K g z_ y_)) ([.ref (g 0 0)] : List Value).toArray s 0 0 A) (F0 m 31 ls []) := by
    intro n
    induction n with
    | zero =>
      intro n31_0 n31_1 q31_Z q31_ZL hf
      rw [fX8_digest_31] at hf
      cases hf
    | succ n ih =>
      intro n31_0 n31_1 q31_Z q31_ZL hf H locs hP hD hS ls hl
      rw [fX8_digest_31] at hf
      refine lv_iload_n X.1 X.2.1 dX8_digest_31 rfl (lv_at hl 2 rfl) ?_
      refine lv_iconst (v := 3) X.1 X.2.1 dX8_digest_32 (by decide) ?_
      refine lv_icmp_ge (tgt := 53) X.1 X.2.1 dX8_digest_33 (by decide) (fun c2 => ?_) (fun c2 => ?_)
      · have hf := ite_t hf c2
        refine lv_aload_n X.1 X.2.1 dX8_digest_53 rfl (lv_at hl 0 rfl) ?_
        refine lv_aload_n X.1 X.2.1 dX8_digest_54 rfl (lv_at hl 0 rfl) ?_
        refine lv_aload_n X.1 X.2.1 dX8_digest_55 rfl (lv_at hl 0 rfl) ?_
        refine lv_lload_n X.1 X.2.1 dX8_digest_56 rfl (lv_at hl 1 rfl) ?_
        obtain ⟨r3, z4, hc5, hf⟩ := bd2_e hf
        refine z_V (n := 1) (As := [.long n31_0]) (rest := [.ref (g 0 0), .ref (g 0 0)]) (ci := 8) (q0 := 0) X hK hN (kX8_mixRiders l D K g q31_Z q31_ZL _ n31_0 r3 z4 hc5) (bw_V W42_23 W43_0 W43_1 W1_2 W43_2) rfl ⟨rfl, rfl⟩ (by decide +kernel) rfl ⟨Nat.le_of_ble_eq_true rfl, Nat.le_of_ble_eq_true rfl⟩ hP hD rfl rfl (zj_same hD hS hA) hS hl.1 rfl (Nat.le_of_ble_eq_true rfl) dX8_digest_57 ⟨Nat.zero_le _, Nat.zero_le _⟩ rfl (fun H locs hP hD hS => ?_)
        obtain ⟨r6, z7, hc8, hf⟩ := bd2_e hf
        refine z_V (n := 1) (As := [.long r3]) (rest := [.ref (g 0 0)]) (ci := 8) (q0 := 0) X hK hN (kX8_mixLeavers l D K g z4 q31_ZL _ r3 r6 z7 hc8) (bw_V W43_6 W43_7 W43_8 W1_2 W43_9) rfl ⟨rfl, rfl⟩ (by decide +kernel) rfl ⟨Nat.le_of_ble_eq_true rfl, Nat.le_of_ble_eq_true rfl⟩ hP hD rfl rfl (zj_same hD hS hA) hS hl.1 rfl (Nat.le_of_ble_eq_true rfl) dX8_digest_60 ⟨Nat.zero_le _, Nat.zero_le _⟩ rfl (fun H locs hP hD hS => ?_)
        obtain ⟨r9, z10, hc11, hf⟩ := bd2_e hf
        refine z_V (n := 1) (As := [.long r6]) (rest := []) (ci := 8) (q0 := 0) X hK hN (kX8_mixStops l D K g z7 q31_ZL _ r6 r9 z10 hc11) (bw_V W43_12 W43_13 W43_14 W1_2 W43_15) rfl ⟨rfl, rfl⟩ (by decide +kernel) rfl ⟨Nat.le_of_ble_eq_true rfl, Nat.le_of_ble_eq_true rfl⟩ hP hD rfl rfl (zj_same hD hS hA) hS hl.1 rfl (Nat.le_of_ble_eq_true rfl) dX8_digest_63 ⟨Nat.zero_le _, Nat.zero_le _⟩ rfl (fun H locs hP hD hS => ?_)
        refine lv_lstore_n (lv' := [(1, .long r9), (0, .ref (g 0 0)), (3, .int n31_1)]) X.1 X.2.1 dX8_digest_66 rfl hl (by decide) rfl (fun ls hl => ?_)
        refine lv_aload_n X.1 X.2.1 dX8_digest_67 rfl (lv_at hl 1 rfl) ?_
        refine lv_lload_n X.1 X.2.1 dX8_digest_68 rfl (lv_at hl 0 rfl) ?_
        obtain ⟨r12, z13, hc14, hf⟩ := bd2_e hf
        refine z_V (n := 1) (As := [.long r9]) (rest := []) (ci := 8) (q0 := 0) X hK hN (kX8_mixSteps l D K g z10 q31_ZL _ r9 r12 z13 hc14) (bw_V W43_17 W43_18 W43_19 W1_2 W43_20) rfl ⟨rfl, rfl⟩ (by decide +kernel) rfl ⟨Nat.le_of_ble_eq_true rfl, Nat.le_of_ble_eq_true rfl⟩ hP hD rfl rfl (zj_same hD hS hA) hS hl.1 rfl (Nat.le_of_ble_eq_true rfl) dX8_digest_69 ⟨Nat.zero_le _, Nat.zero_le _⟩ rfl (fun H locs hP hD hS => ?_)
        refine lv_lstore_n (lv' := [(1, .long r12), (0, .ref (g 0 0)), (3, .int n31_1)]) X.1 X.2.1 dX8_digest_72 rfl hl (by decide) rfl (fun ls hl => ?_)
        refine lv_lload_n X.1 X.2.1 dX8_digest_73 rfl (lv_at hl 0 rfl) ?_
        refine lv_aload_n X.1 X.2.1 dX8_digest_74 rfl (lv_at hl 1 rfl) ?_
        obtain ⟨r15, z16, hc17, hf⟩ := bd2_e hf
        refine z_V (n := 0) (As := []) (rest := [.long r12]) (ci := 8) (q0 := 0) X hK hN (kX8_ends l D K g z13 q31_ZL _ r15 z16 hc17) (bw_V W44_0 W22_4 W22_5 W1_2 W22_6) rfl ⟨rfl, rfl⟩ (by decide +kernel) rfl ⟨Nat.le_of_ble_eq_true rfl, Nat.le_of_ble_eq_true rfl⟩ hP hD rfl rfl (zj_same hD hS hA) hS hl.1 rfl (Nat.le_of_ble_eq_true rfl) dX8_digest_75 ⟨Nat.zero_le _, Nat.zero_le _⟩ rfl (fun H locs hP hD hS => ?_)
        refine lv_i2l X.1 X.2.1 dX8_digest_78 rfl ?_
        obtain ⟨r18, hc19, hf⟩ := bd1_e hf
        refine z_S (n := 2) (As := [.long r12, .long ((r15 : Int32).toInt64)]) (rest := []) X hK hN (kX8_mix l D K _ r12 ((r15 : Int32).toInt64) r18 hc19) (bw_S W42_18 W42_19 W1_2 W42_20) rfl ⟨rfl, rfl⟩ (by decide +kernel) rfl ⟨Nat.le_of_ble_eq_true rfl, Nat.le_of_ble_eq_true rfl⟩ (fun _ _ h => by simp at h) ⟨fun _ _ _ _ h => by simp at h, fun _ _ h => by simp at h⟩ (zj_none hP hD hS hA) hS hl.1 rfl (Nat.le_of_ble_eq_true rfl) dX8_digest_79 ⟨Nat.zero_le _, Nat.zero_le _⟩ rfl (fun H locs hP hD hS => ?_)
        refine lv_lstore_n (lv' := [(1, .long r18), (0, .ref (g 0 0)), (3, .int n31_1)]) X.1 X.2.1 dX8_digest_82 rfl hl (by decide) rfl (fun ls hl => ?_)
        refine lv_lload_n X.1 X.2.1 dX8_digest_83 rfl (lv_at hl 0 rfl) ?_
        refine lv_aload_n X.1 X.2.1 dX8_digest_84 rfl (lv_at hl 1 rfl) ?_
        refine lv_iconst (v := 0) X.1 X.2.1 dX8_digest_85 (by decide) ?_
        obtain ⟨r20, z21, hc22, hf⟩ := bd2_e hf
        refine z_V (n := 1) (As := [.int 0]) (rest := [.long r18]) (ci := 8) (q0 := 0) X hK hN (kX8_full l D K g z16 q31_ZL _ 0 r20 z21 hc22) (bw_V W44_1 W23_20 W23_21 W1_2 W23_22) rfl ⟨rfl, rfl⟩ (by decide +kernel) rfl ⟨Nat.le_of_ble_eq_true rfl, Nat.le_of_ble_eq_true rfl⟩ hP hD rfl rfl (zj_same hD hS hA) hS hl.1 rfl (Nat.le_of_ble_eq_true rfl) dX8_digest_86 ⟨Nat.zero_le _, Nat.zero_le _⟩ rfl (fun H locs hP hD hS => ?_)
        refine lv_i2l X.1 X.2.1 dX8_digest_89 rfl ?_
        obtain ⟨r23, hc24, hf⟩ := bd1_e hf
        refine z_S (n := 2) (As := [.long r18, .long ((r20 : Int32).toInt64)]) (rest := []) X hK hN (kX8_mix l D K _ r18 ((r20 : Int32).toInt64) r23 hc24) (bw_S W42_18 W42_19 W1_2 W42_20) rfl ⟨rfl, rfl⟩ (by decide +kernel) rfl ⟨Nat.le_of_ble_eq_true rfl, Nat.le_of_ble_eq_true rfl⟩ (fun _ _ h => by simp at h) ⟨fun _ _ _ _ h => by simp at h, fun _ _ h => by simp at h⟩ (zj_none hP hD hS hA) hS hl.1 rfl (Nat.le_of_ble_eq_true rfl) dX8_digest_90 ⟨Nat.zero_le _, Nat.zero_le _⟩ rfl (fun H locs hP hD hS => ?_)
        refine lv_aload_n X.1 X.2.1 dX8_digest_93 rfl (lv_at hl 1 rfl) ?_
        refine lv_iconst (v := 1) X.1 X.2.1 dX8_digest_94 (by decide) ?_
        obtain ⟨r25, z26, hc27, hf⟩ := bd2_e hf
        refine z_V (n := 1) (As := [.int 1]) (rest := [.long r23]) (ci := 8) (q0 := 0) X hK hN (kX8_full l D K g z21 q31_ZL _ 1 r25 z26 hc27) (bw_V W44_1 W23_20 W23_21 W1_2 W23_22) rfl ⟨rfl, rfl⟩ (by decide +kernel) rfl ⟨Nat.le_of_ble_eq_true rfl, Nat.le_of_ble_eq_true rfl⟩ hP hD rfl rfl (zj_same hD hS hA) hS hl.1 rfl (Nat.le_of_ble_eq_true rfl) dX8_digest_95 ⟨Nat.zero_le _, Nat.zero_le _⟩ rfl (fun H locs hP hD hS => ?_)
        refine lv_i2l X.1 X.2.1 dX8_digest_98 rfl ?_
        obtain ⟨r28, hc29, hf⟩ := bd1_e hf
        refine z_S (n := 2) (As := [.long r23, .long ((r25 : Int32).toInt64)]) (rest := []) X hK hN (kX8_mix l D K _ r23 ((r25 : Int32).toInt64) r28 hc29) (bw_S W42_18 W42_19 W1_2 W42_20) rfl ⟨rfl, rfl⟩ (by decide +kernel) rfl ⟨Nat.le_of_ble_eq_true rfl, Nat.le_of_ble_eq_true rfl⟩ (fun _ _ h => by simp at h) ⟨fun _ _ _ _ h => by simp at h, fun _ _ h => by simp at h⟩ (zj_none hP hD hS hA) hS hl.1 rfl (Nat.le_of_ble_eq_true rfl) dX8_digest_99 ⟨Nat.zero_le _, Nat.zero_le _⟩ rfl (fun H locs hP hD hS => ?_)
        refine lv_lstore_n (lv' := [(1, .long r28), (0, .ref (g 0 0)), (3, .int n31_1)]) X.1 X.2.1 dX8_digest_102 rfl hl (by decide) rfl (fun ls hl => ?_)
        refine lv_lload_n X.1 X.2.1 dX8_digest_103 rfl (lv_at hl 0 rfl) ?_
        refine lv_aload_n X.1 X.2.1 dX8_digest_104 rfl (lv_at hl 1 rfl) ?_
        refine lv_iconst (v := -1) X.1 X.2.1 dX8_digest_105 (by decide) ?_
        obtain ⟨r30, z31, hc32, hf⟩ := bd2_e hf
        refine z_V (n := 1) (As := [.int ((-1))]) (rest := [.long r28]) (ci := 8) (q0 := 0) X hK hN (kX8_more l D K g z26 q31_ZL _ ((-1)) r30 z31 hc32) (bw_V W44_2 W26_16 W26_17 W1_2 W26_18) rfl ⟨rfl, rfl⟩ (by decide +kernel) rfl ⟨Nat.le_of_ble_eq_true rfl, Nat.le_of_ble_eq_true rfl⟩ hP hD rfl rfl (zj_same hD hS hA) hS hl.1 rfl (Nat.le_of_ble_eq_true rfl) dX8_digest_106 ⟨Nat.zero_le _, Nat.zero_le _⟩ rfl (fun H locs hP hD hS => ?_)
        refine lv_i2l X.1 X.2.1 dX8_digest_109 rfl ?_
        obtain ⟨r33, hc34, hf⟩ := bd1_e hf
        refine z_S (n := 2) (As := [.long r28, .long ((r30 : Int32).toInt64)]) (rest := []) X hK hN (kX8_mix l D K _ r28 ((r30 : Int32).toInt64) r33 hc34) (bw_S W42_18 W42_19 W1_2 W42_20) rfl ⟨rfl, rfl⟩ (by decide +kernel) rfl ⟨Nat.le_of_ble_eq_true rfl, Nat.le_of_ble_eq_true rfl⟩ (fun _ _ h => by simp at h) ⟨fun _ _ _ _ h => by simp at h, fun _ _ h => by simp at h⟩ (zj_none hP hD hS hA) hS hl.1 rfl (Nat.le_of_ble_eq_true rfl) dX8_digest_110 ⟨Nat.zero_le _, Nat.zero_le _⟩ rfl (fun H locs hP hD hS => ?_)
        refine lv_aload_n X.1 X.2.1 dX8_digest_113 rfl (lv_at hl 1 rfl) ?_
        refine lv_iconst (v := 0) X.1 X.2.1 dX8_digest_114 (by decide) ?_
        obtain ⟨r35, z36, hc37, hf⟩ := bd2_e hf
        refine z_V (n := 1) (As := [.int 0]) (rest := [.long r33]) (ci := 8) (q0 := 0) X hK hN (kX8_more l D K g z31 q31_ZL _ 0 r35 z36 hc37) (bw_V W44_2 W26_16 W26_17 W1_2 W26_18) rfl ⟨rfl, rfl⟩ (by decide +kernel) rfl ⟨Nat.le_of_ble_eq_true rfl, Nat.le_of_ble_eq_true rfl⟩ hP hD rfl rfl (zj_same hD hS hA) hS hl.1 rfl (Nat.le_of_ble_eq_true rfl) dX8_digest_115 ⟨Nat.zero_le _, Nat.zero_le _⟩ rfl (fun H locs hP hD hS => ?_)
        refine lv_i2l X.1 X.2.1 dX8_digest_118 rfl ?_
        obtain ⟨r38, hc39, hf⟩ := bd1_e hf
        refine z_S (n := 2) (As := [.long r33, .long ((r35 : Int32).toInt64)]) (rest := []) X hK hN (kX8_mix l D K _ r33 ((r35 : Int32).toInt64) r38 hc39) (bw_S W42_18 W42_19 W1_2 W42_20) rfl ⟨rfl, rfl⟩ (by decide +kernel) rfl ⟨Nat.le_of_ble_eq_true rfl, Nat.le_of_ble_eq_true rfl⟩ (fun _ _ h => by simp at h) ⟨fun _ _ _ _ h => by simp at h, fun _ _ h => by simp at h⟩ (zj_none hP hD hS hA) hS hl.1 rfl (Nat.le_of_ble_eq_true rfl) dX8_digest_119 ⟨Nat.zero_le _, Nat.zero_le _⟩ rfl (fun H locs hP hD hS => ?_)
        refine lv_lstore_n (lv' := [(1, .long r38), (0, .ref (g 0 0)), (3, .int n31_1)]) X.1 X.2.1 dX8_digest_122 rfl hl (by decide) rfl (fun ls hl => ?_)
        refine lv_lload_n X.1 X.2.1 dX8_digest_123 rfl (lv_at hl 0 rfl) ?_
        refine lv_aload_n X.1 X.2.1 dX8_digest_124 rfl (lv_at hl 1 rfl) ?_
        obtain ⟨r40, z41, hc42, hf⟩ := bd2_e hf
        refine z_V (n := 0) (As := []) (rest := [.long r38]) (ci := 8) (q0 := 0) X hK hN (kX8_never l D K g z36 q31_ZL _ r40 z41 hc42) (bw_V W44_3 W32_10 W32_11 W1_2 W32_12) rfl ⟨rfl, rfl⟩ (by decide +kernel) rfl ⟨Nat.le_of_ble_eq_true rfl, Nat.le_of_ble_eq_true rfl⟩ hP hD rfl rfl (zj_same hD hS hA) hS hl.1 rfl (Nat.le_of_ble_eq_true rfl) dX8_digest_125 ⟨Nat.zero_le _, Nat.zero_le _⟩ rfl (fun H locs hP hD hS => ?_)
        refine lv_i2l X.1 X.2.1 dX8_digest_128 rfl ?_
        obtain ⟨r43, hc44, hf⟩ := bd1_e hf
        refine z_S (n := 2) (As := [.long r38, .long ((r40 : Int32).toInt64)]) (rest := []) X hK hN (kX8_mix l D K _ r38 ((r40 : Int32).toInt64) r43 hc44) (bw_S W42_18 W42_19 W1_2 W42_20) rfl ⟨rfl, rfl⟩ (by decide +kernel) rfl ⟨Nat.le_of_ble_eq_true rfl, Nat.le_of_ble_eq_true rfl⟩ (fun _ _ h => by simp at h) ⟨fun _ _ _ _ h => by simp at h, fun _ _ h => by simp at h⟩ (zj_none hP hD hS hA) hS hl.1 rfl (Nat.le_of_ble_eq_true rfl) dX8_digest_129 ⟨Nat.zero_le _, Nat.zero_le _⟩ rfl (fun H locs hP hD hS => ?_)
        refine lv_aload_n X.1 X.2.1 dX8_digest_132 rfl (lv_at hl 1 rfl) ?_
        obtain ⟨r45, z46, hc47, hf⟩ := bd2_e hf
        refine z_V (n := 0) (As := []) (rest := [.long r43]) (ci := 8) (q0 := 0) X hK hN (kX8_weigh l D K g z41 q31_ZL _ r45 z46 hc47) (bw_V W44_4 W34_18 W34_19 W1_2 W34_20) rfl ⟨rfl, rfl⟩ (by decide +kernel) rfl ⟨Nat.le_of_ble_eq_true rfl, Nat.le_of_ble_eq_true rfl⟩ hP hD rfl rfl (zj_same hD hS hA) hS hl.1 rfl (Nat.le_of_ble_eq_true rfl) dX8_digest_133 ⟨Nat.zero_le _, Nat.zero_le _⟩ rfl (fun H locs hP hD hS => ?_)
        refine lv_i2l X.1 X.2.1 dX8_digest_136 rfl ?_
        obtain ⟨r48, hc49, hf⟩ := bd1_e hf
        refine z_S (n := 2) (As := [.long r43, .long ((r45 : Int32).toInt64)]) (rest := []) X hK hN (kX8_mix l D K _ r43 ((r45 : Int32).toInt64) r48 hc49) (bw_S W42_18 W42_19 W1_2 W42_20) rfl ⟨rfl, rfl⟩ (by decide +kernel) rfl ⟨Nat.le_of_ble_eq_true rfl, Nat.le_of_ble_eq_true rfl⟩ (fun _ _ h => by simp at h) ⟨fun _ _ _ _ h => by simp at h, fun _ _ h => by simp at h⟩ (zj_none hP hD hS hA) hS hl.1 rfl (Nat.le_of_ble_eq_true rfl) dX8_digest_137 ⟨Nat.zero_le _, Nat.zero_le _⟩ rfl (fun H locs hP hD hS => ?_)
        refine lv_lstore_n (lv' := [(1, .long r48), (0, .ref (g 0 0)), (3, .int n31_1)]) X.1 X.2.1 dX8_digest_140 rfl hl (by decide) rfl (fun ls hl => ?_)
        refine lv_lload_n X.1 X.2.1 dX8_digest_141 rfl (lv_at hl 0 rfl) ?_
        refine lv_aload_n X.1 X.2.1 dX8_digest_142 rfl (lv_at hl 1 rfl) ?_
        refine lv_iconst (v := 0) X.1 X.2.1 dX8_digest_143 (by decide) ?_
        refine lv_iconst (v := 0) X.1 X.2.1 dX8_digest_144 (by decide) ?_
        refine lv_iconst (v := -1) X.1 X.2.1 dX8_digest_145 (by decide) ?_
        obtain ⟨r50, z51, y52, hc53, hf⟩ := bd3_e hf
        refine z_V (n := 3) (As := [.int 0, .int 0, .int ((-1))]) (rest := [.long r48]) (ci := 8) (q0 := 0) X hK hN (kX8_leave l D K g z46 q31_ZL _ 0 0 ((-1)) r50 z51 y52 hc53) (bw_V W44_5 W28_23 W29_0 W1_2 W29_1) rfl ⟨rfl, rfl⟩ (by decide +kernel) rfl ⟨Nat.le_of_ble_eq_true rfl, Nat.le_of_ble_eq_true rfl⟩ hP hD rfl rfl (zj_same hD hS hA) hS hl.1 rfl (Nat.le_of_ble_eq_true rfl) dX8_digest_146 ⟨Nat.zero_le _, Nat.zero_le _⟩ rfl (fun H locs hP hD hS => ?_)
        refine lv_i2l X.1 X.2.1 dX8_digest_149 rfl ?_
        obtain ⟨r54, hc55, hf⟩ := bd1_e hf
        refine z_S (n := 2) (As := [.long r48, .long ((r50 : Int32).toInt64)]) (rest := []) X hK hN (kX8_mix l D K _ r48 ((r50 : Int32).toInt64) r54 hc55) (bw_S W42_18 W42_19 W1_2 W42_20) rfl ⟨rfl, rfl⟩ (by decide +kernel) rfl ⟨Nat.le_of_ble_eq_true rfl, Nat.le_of_ble_eq_true rfl⟩ (fun _ _ h => by simp at h) ⟨fun _ _ _ _ h => by simp at h, fun _ _ h => by simp at h⟩ (zj_none hP hD hS hA) hS hl.1 rfl (Nat.le_of_ble_eq_true rfl) dX8_digest_150 ⟨Nat.zero_le _, Nat.zero_le _⟩ rfl (fun H locs hP hD hS => ?_)
        refine lv_aload_n X.1 X.2.1 dX8_digest_153 rfl (lv_at hl 1 rfl) ?_
        refine lv_iconst (v := 0) X.1 X.2.1 dX8_digest_154 (by decide) ?_
        refine lv_iconst (v := 0) X.1 X.2.1 dX8_digest_155 (by decide) ?_
        refine lv_iconst (v := 0) X.1 X.2.1 dX8_digest_156 (by decide) ?_
        obtain ⟨r56, z57, y58, hc59, hf⟩ := bd3_e hf
        refine z_V (n := 3) (As := [.int 0, .int 0, .int 0]) (rest := [.long r54]) (ci := 8) (q0 := 0) X hK hN (kX8_leave l D K g z51 y52 _ 0 0 0 r56 z57 y58 hc59) (bw_V W44_5 W28_23 W29_0 W1_2 W29_1) rfl ⟨rfl, rfl⟩ (by decide +kernel) rfl ⟨Nat.le_of_ble_eq_true rfl, Nat.le_of_ble_eq_true rfl⟩ hP hD rfl rfl (zj_same hD hS hA) hS hl.1 rfl (Nat.le_of_ble_eq_true rfl) dX8_digest_157 ⟨Nat.zero_le _, Nat.zero_le _⟩ rfl (fun H locs hP hD hS => ?_)
        refine lv_i2l X.1 X.2.1 dX8_digest_160 rfl ?_
        obtain ⟨r60, hc61, hf⟩ := bd1_e hf
        refine z_S (n := 2) (As := [.long r54, .long ((r56 : Int32).toInt64)]) (rest := []) X hK hN (kX8_mix l D K _ r54 ((r56 : Int32).toInt64) r60 hc61) (bw_S W42_18 W42_19 W1_2 W42_20) rfl ⟨rfl, rfl⟩ (by decide +kernel) rfl ⟨Nat.le_of_ble_eq_true rfl, Nat.le_of_ble_eq_true rfl⟩ (fun _ _ h => by simp at h) ⟨fun _ _ _ _ h => by simp at h, fun _ _ h => by simp at h⟩ (zj_none hP hD hS hA) hS hl.1 rfl (Nat.le_of_ble_eq_true rfl) dX8_digest_161 ⟨Nat.zero_le _, Nat.zero_le _⟩ rfl (fun H locs hP hD hS => ?_)
        refine lv_lstore_n (lv' := [(1, .long r60), (0, .ref (g 0 0)), (3, .int n31_1)]) X.1 X.2.1 dX8_digest_164 rfl hl (by decide) rfl (fun ls hl => ?_)
        refine lv_lload_n X.1 X.2.1 dX8_digest_165 rfl (lv_at hl 0 rfl) ?_
        refine lv_aload_n X.1 X.2.1 dX8_digest_166 rfl (lv_at hl 1 rfl) ?_
        refine lv_iconst (v := 5) X.1 X.2.1 dX8_digest_167 (by decide) ?_
        refine lv_iconst (v := 0) X.1 X.2.1 dX8_digest_168 (by decide) ?_
        refine lv_bipush (v := 20) X.1 X.2.1 dX8_digest_169 (by decide) ?_
        refine lv_iconst (v := 0) X.1 X.2.1 dX8_digest_171 (by decide) ?_
        obtain ⟨r62, z63, y64, hc65, hf⟩ := bd3_e hf
        refine z_V (n := 4) (As := [.int 5, .int 0, .int 20, .int 0]) (rest := [.long r60]) (ci := 8) (q0 := 0) X hK hN (kX8_maybe l D K g z57 y58 _ 5 0 20 0 r62 z63 y64 hc65) (bw_V W44_6 W36_0 W36_1 W1_2 W36_2) rfl ⟨rfl, rfl⟩ (by decide +kernel) rfl ⟨Nat.le_of_ble_eq_true rfl, Nat.le_of_ble_eq_true rfl⟩ hP hD rfl rfl (zj_same hD hS hA) hS hl.1 rfl (Nat.le_of_ble_eq_true rfl) dX8_digest_172 ⟨Nat.zero_le _, Nat.zero_le _⟩ rfl (fun H locs hP hD hS => ?_)
        obtain ⟨r66, hc67, hf⟩ := bd1_e hf
        refine z_S (n := 2) (As := [.long r60, .long r62]) (rest := []) X hK hN (kX8_mix l D K _ r60 r62 r66 hc67) (bw_S W42_18 W42_19 W1_2 W42_20) rfl ⟨rfl, rfl⟩ (by decide +kernel) rfl ⟨Nat.le_of_ble_eq_true rfl, Nat.le_of_ble_eq_true rfl⟩ (fun _ _ h => by simp at h) ⟨fun _ _ _ _ h => by simp at h, fun _ _ h => by simp at h⟩ (zj_none hP hD hS hA) hS hl.1 rfl (Nat.le_of_ble_eq_true rfl) dX8_digest_175 ⟨Nat.zero_le _, Nat.zero_le _⟩ rfl (fun H locs hP hD hS => ?_)
        refine lv_aload_n X.1 X.2.1 dX8_digest_178 rfl (lv_at hl 1 rfl) ?_
        refine lv_iconst (v := 5) X.1 X.2.1 dX8_digest_179 (by decide) ?_
        refine lv_iconst (v := 0) X.1 X.2.1 dX8_digest_180 (by decide) ?_
        refine lv_bipush (v := 20) X.1 X.2.1 dX8_digest_181 (by decide) ?_
        refine lv_iconst (v := 1) X.1 X.2.1 dX8_digest_183 (by decide) ?_
        obtain ⟨r68, z69, y70, hc71, hf⟩ := bd3_e hf
        refine z_V (n := 4) (As := [.int 5, .int 0, .int 20, .int 1]) (rest := [.long r66]) (ci := 8) (q0 := 0) X hK hN (kX8_maybe l D K g z63 y64 _ 5 0 20 1 r68 z69 y70 hc71) (bw_V W44_6 W36_0 W36_1 W1_2 W36_2) rfl ⟨rfl, rfl⟩ (by decide +kernel) rfl ⟨Nat.le_of_ble_eq_true rfl, Nat.le_of_ble_eq_true rfl⟩ hP hD rfl rfl (zj_same hD hS hA) hS hl.1 rfl (Nat.le_of_ble_eq_true rfl) dX8_digest_184 ⟨Nat.zero_le _, Nat.zero_le _⟩ rfl (fun H locs hP hD hS => ?_)
        obtain ⟨r72, hc73, hf⟩ := bd1_e hf
        refine z_S (n := 2) (As := [.long r66, .long r68]) (rest := []) X hK hN (kX8_mix l D K _ r66 r68 r72 hc73) (bw_S W42_18 W42_19 W1_2 W42_20) rfl ⟨rfl, rfl⟩ (by decide +kernel) rfl ⟨Nat.le_of_ble_eq_true rfl, Nat.le_of_ble_eq_true rfl⟩ (fun _ _ h => by simp at h) ⟨fun _ _ _ _ h => by simp at h, fun _ _ h => by simp at h⟩ (zj_none hP hD hS hA) hS hl.1 rfl (Nat.le_of_ble_eq_true rfl) dX8_digest_187 ⟨Nat.zero_le _, Nat.zero_le _⟩ rfl (fun H locs hP hD hS => ?_)
        refine lv_lstore_n (lv' := [(1, .long r72), (0, .ref (g 0 0)), (3, .int n31_1)]) X.1 X.2.1 dX8_digest_190 rfl hl (by decide) rfl (fun ls hl => ?_)
        refine lv_lload_n X.1 X.2.1 dX8_digest_191 rfl (lv_at hl 0 rfl) ?_
        refine lv_aload_n X.1 X.2.1 dX8_digest_192 rfl (lv_at hl 1 rfl) ?_
        refine lv_bipush (v := 7) X.1 X.2.1 dX8_digest_193 (by decide) ?_
        refine lv_bipush (v := 12) X.1 X.2.1 dX8_digest_195 (by decide) ?_
        refine lv_iconst (v := 0) X.1 X.2.1 dX8_digest_197 (by decide) ?_
        obtain ⟨r74, z75, hc76, hf⟩ := bd2_e hf
        refine z_V (n := 3) (As := [.int 7, .int 12, .int 0]) (rest := [.long r72]) (ci := 8) (q0 := 0) X hK hN (kX8_day l D K g z69 y70 _ 7 12 0 r74 z75 hc76) (bw_V W44_7 W37_20 W37_21 W1_2 W37_22) rfl ⟨rfl, rfl⟩ (by decide +kernel) rfl ⟨Nat.le_of_ble_eq_true rfl, Nat.le_of_ble_eq_true rfl⟩ hP hD rfl rfl (zj_same hD hS hA) hS hl.1 rfl (Nat.le_of_ble_eq_true rfl) dX8_digest_198 ⟨Nat.zero_le _, Nat.zero_le _⟩ rfl (fun H locs hP hD hS => ?_)
        refine lv_i2l X.1 X.2.1 dX8_digest_201 rfl ?_
        obtain ⟨r77, hc78, hf⟩ := bd1_e hf
        refine z_S (n := 2) (As := [.long r72, .long ((r74 : Int32).toInt64)]) (rest := []) X hK hN (kX8_mix l D K _ r72 ((r74 : Int32).toInt64) r77 hc78) (bw_S W42_18 W42_19 W1_2 W42_20) rfl ⟨rfl, rfl⟩ (by decide +kernel) rfl ⟨Nat.le_of_ble_eq_true rfl, Nat.le_of_ble_eq_true rfl⟩ (fun _ _ h => by simp at h) ⟨fun _ _ _ _ h => by simp at h, fun _ _ h => by simp at h⟩ (zj_none hP hD hS hA) hS hl.1 rfl (Nat.le_of_ble_eq_true rfl) dX8_digest_202 ⟨Nat.zero_le _, Nat.zero_le _⟩ rfl (fun H locs hP hD hS => ?_)
        refine lv_aload_n X.1 X.2.1 dX8_digest_205 rfl (lv_at hl 1 rfl) ?_
        refine lv_bipush (v := 7) X.1 X.2.1 dX8_digest_206 (by decide) ?_
        refine lv_bipush (v := 12) X.1 X.2.1 dX8_digest_208 (by decide) ?_
        refine lv_iconst (v := 1) X.1 X.2.1 dX8_digest_210 (by decide) ?_
        obtain ⟨r79, z80, hc81, hf⟩ := bd2_e hf
        refine z_V (n := 3) (As := [.int 7, .int 12, .int 1]) (rest := [.long r77]) (ci := 8) (q0 := 0) X hK hN (kX8_day l D K g z75 y70 _ 7 12 1 r79 z80 hc81) (bw_V W44_7 W37_20 W37_21 W1_2 W37_22) rfl ⟨rfl, rfl⟩ (by decide +kernel) rfl ⟨Nat.le_of_ble_eq_true rfl, Nat.le_of_ble_eq_true rfl⟩ hP hD rfl rfl (zj_same hD hS hA) hS hl.1 rfl (Nat.le_of_ble_eq_true rfl) dX8_digest_211 ⟨Nat.zero_le _, Nat.zero_le _⟩ rfl (fun H locs hP hD hS => ?_)
        refine lv_i2l X.1 X.2.1 dX8_digest_214 rfl ?_
        obtain ⟨r82, hc83, hf⟩ := bd1_e hf
        refine z_S (n := 2) (As := [.long r77, .long ((r79 : Int32).toInt64)]) (rest := []) X hK hN (kX8_mix l D K _ r77 ((r79 : Int32).toInt64) r82 hc83) (bw_S W42_18 W42_19 W1_2 W42_20) rfl ⟨rfl, rfl⟩ (by decide +kernel) rfl ⟨Nat.le_of_ble_eq_true rfl, Nat.le_of_ble_eq_true rfl⟩ (fun _ _ h => by simp at h) ⟨fun _ _ _ _ h => by simp at h, fun _ _ h => by simp at h⟩ (zj_none hP hD hS hA) hS hl.1 rfl (Nat.le_of_ble_eq_true rfl) dX8_digest_215 ⟨Nat.zero_le _, Nat.zero_le _⟩ rfl (fun H locs hP hD hS => ?_)
        obtain ⟨rfl, rfl, rfl⟩ := z_inj3 hf
        exact z_lret X hr hlk hP hD hS dX8_digest_218
      · have hf := ite_f hf c2
        refine lv_lload_n X.1 X.2.1 dX8_digest_36 rfl (lv_at hl 1 rfl) ?_
        refine lv_aload_n X.1 X.2.1 dX8_digest_37 rfl (lv_at hl 0 rfl) ?_
        refine lv_iload_n X.1 X.2.1 dX8_digest_38 rfl (lv_at hl 2 rfl) ?_
        obtain ⟨r84, hc85, hf⟩ := bd1_e hf
        refine z_V (n := 1) (As := [.int n31_1]) (rest := [.long n31_0]) (ci := 8) (q0 := 0) X hK hN (kX8_fault l D K g q31_Z q31_ZL _ n31_1 r84 hc85) (bw_V W42_22 W9_13 W9_14 W1_2 W9_15) rfl ⟨rfl, rfl⟩ (by decide +kernel) rfl ⟨Nat.le_of_ble_eq_true rfl, Nat.le_of_ble_eq_true rfl⟩ hP hD rfl rfl (zj_same hD hS hA) hS hl.1 rfl (Nat.le_of_ble_eq_true rfl) dX8_digest_39 ⟨Nat.zero_le _, Nat.zero_le _⟩ rfl (fun H locs hP hD hS => ?_)
        refine lv_i2l X.1 X.2.1 dX8_digest_42 rfl ?_
        obtain ⟨r86, hc87, hf⟩ := bd1_e hf
        refine z_S (n := 2) (As := [.long n31_0, .long ((r84 : Int32).toInt64)]) (rest := []) X hK hN (kX8_mix l D K _ n31_0 ((r84 : Int32).toInt64) r86 hc87) (bw_S W42_18 W42_19 W1_2 W42_20) rfl ⟨rfl, rfl⟩ (by decide +kernel) rfl ⟨Nat.le_of_ble_eq_true rfl, Nat.le_of_ble_eq_true rfl⟩ (fun _ _ h => by simp at h) ⟨fun _ _ _ _ h => by simp at h, fun _ _ h => by simp at h⟩ (zj_none hP hD hS hA) hS hl.1 rfl (Nat.le_of_ble_eq_true rfl) dX8_digest_43 ⟨Nat.zero_le _, Nat.zero_le _⟩ rfl (fun H locs hP hD hS => ?_)
        refine lv_lstore_n (lv' := [(1, .long r86), (0, .ref (g 0 0)), (3, .int n31_1)]) X.1 X.2.1 dX8_digest_46 rfl hl (by decide) rfl (fun ls hl => ?_)
        obtain ⟨w88, ew88, hf⟩ := stp_e hf
        refine lv_iinc (v := w88) (lv' := [(3, .int w88), (1, .long r86), (0, .ref (g 0 0))]) X.1 X.2.1 dX8_digest_47 hl (k := 2) rfl (by rw [ew88]; rfl) (by decide) rfl (fun ls hl => ?_)
        refine lv_goto (tgt := 31) X.1 X.2.1 dX8_digest_50 (by decide) ?_
        exact ih _ _ _ _ hf _ _ hP hD hS _ (lv_sub hl [2, 1, 0] rfl)
  have L6_0 : ∀ (n : Nat), ∀ (n6_0 : Int64) (n6_1 : Int32) (q6_Z : Nat → St) (q6_ZL : Nat → Lt), fX8_digest_6 n n6_0 n6_1 q6_Z q6_ZL = some ((q_, z_, y_)) → ∀ (H : Heap) (locs : List Loc), va_P D vwCl (wbALL K g q6_Z q6_ZL) H → va_D A (wbALL K g q6_Z q6_ZL) → va_S A s.heap H locs → ∀ (ls : Array Slot), lv_has ls 4 [(0, .ref (g 0 0)), (1, .long n6_0), (3, .int n6_1)] → W p l e rmX8_digest s m ([.ref (g 0 0)] : List Value).toArray below meth c H locs 0 0 (MQ below (zQ (some (.long q_)) D A (wbALL K g z_ y_)) ([.ref (g 0 0)] : List Value).toArray s 0 0 A) (F0 m 6 ls []) := by
    intro n
    induction n with
    | zero =>
      intro n6_0 n6_1 q6_Z q6_ZL hf
      rw [fX8_digest_6] at hf
      cases hf
    | succ n ih =>
      intro n6_0 n6_1 q6_Z q6_ZL hf H locs hP hD hS ls hl
      rw [fX8_digest_6] at hf
      refine lv_iload_n X.1 X.2.1 dX8_digest_6 rfl (lv_at hl 2 rfl) ?_
      refine lv_bipush (v := 8) X.1 X.2.1 dX8_digest_7 (by decide) ?_
      refine lv_icmp_ge (tgt := 29) X.1 X.2.1 dX8_digest_9 (by decide) (fun c1 => ?_) (fun c1 => ?_)
      · have hf := ite_t hf c1
        refine lv_iconst (v := 0) X.1 X.2.1 dX8_digest_29 (by decide) ?_
        refine lv_istore_n (lv' := [(3, .int 0), (0, .ref (g 0 0)), (1, .long n6_0)]) X.1 X.2.1 dX8_digest_30 rfl hl (by decide) rfl (fun ls hl => ?_)
        exact L31_1  _ _ _ _ _ hf _ _ hP hD hS _ (lv_sub hl [1, 2, 0] rfl)
      · have hf := ite_f hf c1
        refine lv_lload_n X.1 X.2.1 dX8_digest_12 rfl (lv_at hl 1 rfl) ?_
        refine lv_aload_n X.1 X.2.1 dX8_digest_13 rfl (lv_at hl 0 rfl) ?_
        refine lv_iload_n X.1 X.2.1 dX8_digest_14 rfl (lv_at hl 2 rfl) ?_
        obtain ⟨r89, z90, hc91, hf⟩ := bd2_e hf
        refine z_V (n := 1) (As := [.int n6_1]) (rest := [.long n6_0]) (ci := 8) (q0 := 0) X hK hN (kX8_count l D K g q6_Z q6_ZL _ n6_1 r89 z90 hc91) (bw_V W42_17 W42_1 W42_2 W1_2 W42_3) rfl ⟨rfl, rfl⟩ (by decide +kernel) rfl ⟨Nat.le_of_ble_eq_true rfl, Nat.le_of_ble_eq_true rfl⟩ hP hD rfl rfl (zj_same hD hS hA) hS hl.1 rfl (Nat.le_of_ble_eq_true rfl) dX8_digest_15 ⟨Nat.zero_le _, Nat.zero_le _⟩ rfl (fun H locs hP hD hS => ?_)
        refine lv_i2l X.1 X.2.1 dX8_digest_18 rfl ?_
        obtain ⟨r92, hc93, hf⟩ := bd1_e hf
        refine z_S (n := 2) (As := [.long n6_0, .long ((r89 : Int32).toInt64)]) (rest := []) X hK hN (kX8_mix l D K _ n6_0 ((r89 : Int32).toInt64) r92 hc93) (bw_S W42_18 W42_19 W1_2 W42_20) rfl ⟨rfl, rfl⟩ (by decide +kernel) rfl ⟨Nat.le_of_ble_eq_true rfl, Nat.le_of_ble_eq_true rfl⟩ (fun _ _ h => by simp at h) ⟨fun _ _ _ _ h => by simp at h, fun _ _ h => by simp at h⟩ (zj_none hP hD hS hA) hS hl.1 rfl (Nat.le_of_ble_eq_true rfl) dX8_digest_19 ⟨Nat.zero_le _, Nat.zero_le _⟩ rfl (fun H locs hP hD hS => ?_)
        refine lv_lstore_n (lv' := [(1, .long r92), (0, .ref (g 0 0)), (3, .int n6_1)]) X.1 X.2.1 dX8_digest_22 rfl hl (by decide) rfl (fun ls hl => ?_)
        obtain ⟨w94, ew94, hf⟩ := stp_e hf
        refine lv_iinc (v := w94) (lv' := [(3, .int w94), (1, .long r92), (0, .ref (g 0 0))]) X.1 X.2.1 dX8_digest_23 hl (k := 2) rfl (by rw [ew94]; rfl) (by decide) rfl (fun ls hl => ?_)
        refine lv_goto (tgt := 6) X.1 X.2.1 dX8_digest_26 (by decide) ?_
        exact ih _ _ _ _ hf _ _ hP hD hS _ (lv_sub hl [2, 1, 0] rfl)
  rw [fX8_digest] at hf
  refine lv_ldc2 (v := 17) X.1 X.2.1 X.2.2.2.1 (X.2.2.2.2 _ (bw_in W42_16)) dX8_digest_0 ?_
  refine lv_lstore_n (lv' := [(1, .long 17), (0, .ref (g 0 0))]) X.1 X.2.1 dX8_digest_3 rfl hl (by decide) rfl (fun ls hl => ?_)
  refine lv_iconst (v := 0) X.1 X.2.1 dX8_digest_4 (by decide) ?_
  refine lv_istore_n (lv' := [(3, .int 0), (1, .long 17), (0, .ref (g 0 0))]) X.1 X.2.1 dX8_digest_5 rfl hl (by decide) rfl (fun ls hl => ?_)
  exact L6_0  _ _ _ _ _ hf _ _ hP hD hS _ (lv_sub hl [2, 1, 0] rfl)
abbrev rmX8_forget : Room := { frames := 0, cells := 0, slots := 0, locals := 0 }
set_option maxHeartbeats 4000000 in
set_option maxRecDepth 100000 in
theorem kX8_forget (l : Launch) (D : va_G) (K : Nat → ClassId) (g : Nat → Nat → Nat) (z0 : Nat → St) (y0 : Nat → Lt) (sz : Nat)  (q_ : Int32) (z_ : Nat → St) (hf : fX8_forget z0 y0 = some (q_, z_)) : Met l yX8_forget (bw (Cond.code yX8_forget cX8_forget 2 (some .int))) rmX8_forget (va_Pc [.ref (g 0 0)] (zB D K sz (wbALL K g z0 y0))) (zQ (some (.int q_)) D (va_A (wbALL K g z0 y0) sz) (wbALL K g z_ y0)) 0 0 (va_A (wbALL K g z0 y0) sz) := by
  refine z_of (cc := cX8_forget) (maxL := 2) (ret := (some .int)) (own := RX8) (lv := [(0, .ref (g 0 0))]) (by decide) rfl rfl (Nat.le_of_ble_eq_true rfl) rfl ?_
  intro p e s m below meth c X hr hlk hK hN hsz hP hD hA hS hin ls hl
  generalize va_A (wbALL K g z0 y0) sz = A at hD hA hS hN ⊢
  have hiX6 : ∀ w ∈ u_ws RX6 TX6 3, w ∈ (bw (Cond.code yX8_forget cX8_forget 2 (some .int))) := fun w h => bw_in (inlX6 w h)
  have hiX8 : ∀ w ∈ u_ws RX8 TX8 11, w ∈ (bw (Cond.code yX8_forget cX8_forget 2 (some .int))) := fun w h => bw_in (inlX8 w h)
  rw [fX8_forget] at hf
  refine lv_aload_n X.1 X.2.1 dX8_forget_0 rfl (lv_at hl 0 rfl) ?_
  refine z_get X hK hP hiX8 0 rfl rfl 7 (by decide) (bw_in W2_12) rfl dX8_forget_1 ?_
  refine z_get X hK hP hiX6 52 rfl rfl 0 (by decide) (bw_in W30_8) rfl dX8_forget_4 ?_
  obtain ⟨w1, ew1, hf⟩ := stp_e hf
  refine z_top ew1 ?_
  refine lv_istore_n (lv' := [(1, .int w1), (0, .ref (g 0 0))]) X.1 X.2.1 dX8_forget_7 rfl hl (by decide) rfl (fun ls hl => ?_)
  refine lv_aload_n X.1 X.2.1 dX8_forget_8 rfl (lv_at hl 1 rfl) ?_
  refine z_get X hK hP hiX8 0 rfl rfl 7 (by decide) (bw_in W2_12) rfl dX8_forget_9 ?_
  refine lv_iconst (v := 0) X.1 X.2.1 dX8_forget_12 (by decide) ?_
  obtain ⟨z2, ez2, hf⟩ := stp_e hf
  refine z_put (ws' := wbALL K g z2 y0) X hK hP hD hS hiX6 tyX6_ok nmX6 52 rfl rfl 0 (by decide) (bw_in W30_8) rfl rfl rfl (Nat.le_of_ble_eq_true rfl) dX8_forget_13 (by rw [ez2]; rfl) (fun H locs hP hD hS => ?_)
  refine lv_iload_n X.1 X.2.1 dX8_forget_16 rfl (lv_at hl 0 rfl) ?_
  obtain ⟨rfl, rfl⟩ := z_inj2 hf
  exact z_iret X hr hlk hP hD hS dX8_forget_17
abbrev rmX8_noSuchForm : Room := { frames := 0, cells := 0, slots := 0, locals := 0 }
set_option maxHeartbeats 4000000 in
set_option maxRecDepth 100000 in
theorem kX8_noSuchForm (l : Launch) (D : va_G) (K : Nat → ClassId)   (sz : Nat) (x1 : Int32) (q_ : Int32) (hf : fX8_noSuchForm x1 = some q_) : Met l yX8_noSuchForm (bw (Cond.code yX8_noSuchForm cX8_noSuchForm 1 (some .boolean))) rmX8_noSuchForm (va_Pc [.int x1] (zB D K sz (([] : va_W)))) (zQ (some (.int q_)) D (va_A (([] : va_W)) sz) (([] : va_W))) 0 0 (va_A (([] : va_W)) sz) := by
  refine z_of (cc := cX8_noSuchForm) (maxL := 1) (ret := (some .boolean)) (own := RX8) (lv := [(0, .int x1)]) (by decide) rfl rfl (Nat.le_of_ble_eq_true rfl) rfl ?_
  intro p e s m below meth c X hr hlk hK hN hsz hP hD hA hS hin ls hl
  generalize va_A (([] : va_W)) sz = A at hD hA hS hN ⊢
  rw [fX8_noSuchForm] at hf
  refine lv_iload_n X.1 X.2.1 dX8_noSuchForm_0 rfl (lv_at hl 0 rfl) ?_
  refine lv_if_lt (tgt := 9) X.1 X.2.1 dX8_noSuchForm_1 (by decide) (fun c1 => ?_) (fun c1 => ?_)
  · have hf := ite_t hf c1
    refine lv_iconst (v := 1) X.1 X.2.1 dX8_noSuchForm_9 (by decide) ?_
    refine lv_goto (tgt := 14) X.1 X.2.1 dX8_noSuchForm_10 (by decide) ?_
    obtain rfl := z_inj1 hf
    exact z_zret X hr hlk (by decide) hP hD hS dX8_noSuchForm_14
  · have hf := ite_f hf c1
    refine lv_iload_n X.1 X.2.1 dX8_noSuchForm_4 rfl (lv_at hl 0 rfl) ?_
    refine lv_iconst (v := 3) X.1 X.2.1 dX8_noSuchForm_5 (by decide) ?_
    refine lv_icmp_lt (tgt := 13) X.1 X.2.1 dX8_noSuchForm_6 (by decide) (fun c2 => ?_) (fun c2 => ?_)
    · have hf := ite_t hf c2
      refine lv_iconst (v := 0) X.1 X.2.1 dX8_noSuchForm_13 (by decide) ?_
      obtain rfl := z_inj1 hf
      exact z_zret X hr hlk (by decide) hP hD hS dX8_noSuchForm_14
    · have hf := ite_f hf c2
      refine lv_iconst (v := 1) X.1 X.2.1 dX8_noSuchForm_9 (by decide) ?_
      refine lv_goto (tgt := 14) X.1 X.2.1 dX8_noSuchForm_10 (by decide) ?_
      obtain rfl := z_inj1 hf
      exact z_zret X hr hlk (by decide) hP hD hS dX8_noSuchForm_14
abbrev rmX8_get : Room := { frames := 1, cells := 0, slots := 0, locals := 22 }
set_option maxHeartbeats 4000000 in
set_option maxRecDepth 100000 in
theorem kX8_get (l : Launch) (D : va_G) (K : Nat → ClassId) (g : Nat → Nat → Nat) (z0 : Nat → St) (y0 : Nat → Lt) (sz : Nat) (x1 : Int32) (x2 : Int32) (x3 : Int32) (q_ : Int32) (z_ : Nat → St) (hf : fX8_get z0 y0 x1 x2 x3 = some (q_, z_)) : Met l yX8_get (bw (Cond.code yX8_get cX8_get 5 (some .int))) rmX8_get (va_Pc [.ref (g 0 0), .int x1, .int x2, .int x3] (zB D K sz (wbALL K g z0 y0))) (zQ (some (.int q_)) D (va_A (wbALL K g z0 y0) sz) (wbALL K g z_ y0)) 0 0 (va_A (wbALL K g z0 y0) sz) := by
  refine z_of (cc := cX8_get) (maxL := 5) (ret := (some .int)) (own := RX8) (lv := [(0, .ref (g 0 0)), (1, .int x1), (2, .int x2), (3, .int x3)]) (by decide) rfl rfl (Nat.le_of_ble_eq_true rfl) rfl ?_
  intro p e s m below meth c X hr hlk hK hN hsz hP hD hA hS hin ls hl
  generalize va_A (wbALL K g z0 y0) sz = A at hD hA hS hN ⊢
  have hiX5 : ∀ w ∈ u_ws RX5 TX5 4, w ∈ (bw (Cond.code yX8_get cX8_get 5 (some .int))) := fun w h => bw_in (inlX5 w h)
  have hiX8 : ∀ w ∈ u_ws RX8 TX8 11, w ∈ (bw (Cond.code yX8_get cX8_get 5 (some .int))) := fun w h => bw_in (inlX8 w h)
  rw [fX8_get] at hf
  refine lv_iload_n X.1 X.2.1 dX8_get_0 rfl (lv_at hl 1 rfl) ?_
  obtain ⟨r1, hc2, hf⟩ := bd1_e hf
  refine z_S (n := 1) (As := [.int x1]) (rest := []) X hK hN (kX8_noSuchSheet l D K _ x1 r1 hc2) (bw_S W31_13 W31_14 W1_2 W31_15) rfl ⟨rfl, rfl⟩ (by decide +kernel) rfl ⟨Nat.le_of_ble_eq_true rfl, Nat.le_of_ble_eq_true rfl⟩ (fun _ _ h => by simp at h) ⟨fun _ _ _ _ h => by simp at h, fun _ _ h => by simp at h⟩ (zj_none hP hD hS hA) hS hl.1 rfl (Nat.le_of_ble_eq_true rfl) dX8_get_1 ⟨Nat.zero_le _, Nat.zero_le _⟩ rfl (fun H locs hP hD hS => ?_)
  refine lv_if_ne (tgt := 14) X.1 X.2.1 dX8_get_4 (by decide) (fun c3 => ?_) (fun c3 => ?_)
  · have hf := ite_f hf c3
    refine lv_ldcw (v := -2147483648) X.1 X.2.1 X.2.2.2.1 (X.2.2.2.2 _ (bw_in W40_17)) dX8_get_14 ?_
    obtain ⟨rfl, rfl⟩ := z_inj2 hf
    exact z_iret X hr hlk hP hD hS dX8_get_17
  · have hf := ite_t hf c3
    refine lv_iload_n X.1 X.2.1 dX8_get_7 rfl (lv_at hl 2 rfl) ?_
    obtain ⟨r4, hc5, hf⟩ := bd1_e hf
    refine z_S (n := 1) (As := [.int x2]) (rest := []) X hK hN (kX8_noSuchForm l D K _ x2 r4 hc5) (bw_S W38_15 W38_16 W1_2 W38_17) rfl ⟨rfl, rfl⟩ (by decide +kernel) rfl ⟨Nat.le_of_ble_eq_true rfl, Nat.le_of_ble_eq_true rfl⟩ (fun _ _ h => by simp at h) ⟨fun _ _ _ _ h => by simp at h, fun _ _ h => by simp at h⟩ (zj_none hP hD hS hA) hS hl.1 rfl (Nat.le_of_ble_eq_true rfl) dX8_get_8 ⟨Nat.zero_le _, Nat.zero_le _⟩ rfl (fun H locs hP hD hS => ?_)
    refine lv_if_eq (tgt := 18) X.1 X.2.1 dX8_get_11 (by decide) (fun c6 => ?_) (fun c6 => ?_)
    · have hf := ite_t hf c6
      refine lv_aload_n X.1 X.2.1 dX8_get_18 rfl (lv_at hl 0 rfl) ?_
      refine z_get X hK hP hiX8 0 rfl rfl 1 (by decide) (bw_in W1_15) rfl dX8_get_19 ?_
      refine lv_iload_n X.1 X.2.1 dX8_get_22 rfl (lv_at hl 1 rfl) ?_
      by_cases c7 : x1 = 0
      · have hf := ite_t hf c7
        refine z_aald X hK hP 2 3 rfl rfl (by rw [c7]; exact vp_lit _ _ (by decide)) (by rw [c7] <;> rfl) dX8_get_23 ?_
        refine lv_iload_n X.1 X.2.1 dX8_get_24 rfl (lv_at hl 2 rfl) ?_
        refine lv_iload_n X.1 X.2.1 dX8_get_25 rfl (lv_at hl 3 rfl) ?_
        obtain ⟨r8, hc9, hf⟩ := bd1_e hf
        have hp10 : List.Perm (wbALL K g z0 y0) ((wbX5 K (g 4) (z0 4)) ++ ([0, 1, 2, 3, 5, 6, 7, 8, 9, 10, 11, 12, 13, 14].map (bfALL K g z0 y0)).flatten) := wbALL_perm [4, 0, 1, 2, 3, 5, 6, 7, 8, 9, 10, 11, 12, 13, 14] (by decide)
        refine z_V (n := 2) (As := [.int x2, .int x3]) (rest := []) (ci := 5) (q0 := 0) X hK hN (kX5_refuses l D K (g 4) (z0 4) _ x2 x3 r8 hc9) (bw_V W39_17 W39_18 W39_19 W2_22 W39_20) rfl ⟨rfl, rfl⟩ (by decide +kernel) rfl ⟨Nat.le_of_ble_eq_true rfl, Nat.le_of_ble_eq_true rfl⟩ (hP.perm hp10).lef (hD.perm hp10).lef rfl rfl (zj_perm (ws' := wbALL K g z0 y0) hP hD hS hA hp10 (by refine List.Perm.symm ?_; exact wbALL_perm [4, 0, 1, 2, 3, 5, 6, 7, 8, 9, 10, 11, 12, 13, 14] (by decide))) hS hl.1 rfl (Nat.le_of_ble_eq_true rfl) dX8_get_26 ⟨Nat.zero_le _, Nat.zero_le _⟩ rfl (fun H locs hP hD hS => ?_)
        refine lv_istore (lv' := [(4, .int r8), (0, .ref (g 0 0)), (1, .int x1), (2, .int x2), (3, .int x3)]) X.1 X.2.1 dX8_get_29 hl (by decide) rfl (fun ls hl => ?_)
        refine lv_iload X.1 X.2.1 dX8_get_31 (lv_at hl 0 rfl) ?_
        refine lv_if_eq (tgt := 46) X.1 X.2.1 dX8_get_33 (by decide) (fun c11 => ?_) (fun c11 => ?_)
        · have hf := ite_t hf c11
          refine lv_aload_n X.1 X.2.1 dX8_get_46 rfl (lv_at hl 1 rfl) ?_
          refine z_get X hK hP hiX8 0 rfl rfl 1 (by decide) (bw_in W1_15) rfl dX8_get_47 ?_
          refine lv_iload_n X.1 X.2.1 dX8_get_50 rfl (lv_at hl 2 rfl) ?_
          refine z_aald X hK hP 2 3 rfl rfl (by rw [c7]; exact vp_lit _ _ (by decide)) (by rw [c7] <;> rfl) dX8_get_51 ?_
          refine z_get X hK hP hiX5 9 rfl rfl 3 (by decide) (bw_in W31_12) rfl dX8_get_52 ?_
          refine lv_iload_n X.1 X.2.1 dX8_get_55 rfl (lv_at hl 4 rfl) ?_
          obtain ⟨hi13, hf⟩ := chk_e hf
          obtain ⟨v12, ev12, hf⟩ := stp_e hf
          refine z_iald X hK hP 10 rfl hi13 ev12 dX8_get_56 ?_
          obtain ⟨rfl, rfl⟩ := z_inj2 hf
          exact z_iret X hr hlk hP hD hS dX8_get_57
        · have hf := ite_f hf c11
          refine lv_aload_n X.1 X.2.1 dX8_get_36 rfl (lv_at hl 1 rfl) ?_
          refine lv_iload X.1 X.2.1 dX8_get_37 (lv_at hl 0 rfl) ?_
          obtain ⟨z14, ez14, hf⟩ := stp_e hf
          refine z_put (ws' := wbALL K g z14 y0) X hK hP hD hS hiX8 tyX8_ok nmX8 0 rfl rfl 9 (by decide) (bw_in W2_17) rfl rfl rfl (Nat.le_of_ble_eq_true rfl) dX8_get_39 (by rw [ez14]; rfl) (fun H locs hP hD hS => ?_)
          refine lv_ldcw (v := -2147483648) X.1 X.2.1 X.2.2.2.1 (X.2.2.2.2 _ (bw_in W40_17)) dX8_get_42 ?_
          obtain ⟨rfl, rfl⟩ := z_inj2 hf
          exact z_iret X hr hlk hP hD hS dX8_get_45
      have hf := ite_f hf c7
      by_cases c15 : x1 = 1
      · have hf := ite_t hf c15
        refine z_aald X hK hP 2 3 rfl rfl (by rw [c15]; exact vp_lit _ _ (by decide)) (by rw [c15] <;> rfl) dX8_get_23 ?_
        refine lv_iload_n X.1 X.2.1 dX8_get_24 rfl (lv_at hl 2 rfl) ?_
        refine lv_iload_n X.1 X.2.1 dX8_get_25 rfl (lv_at hl 3 rfl) ?_
        obtain ⟨r16, hc17, hf⟩ := bd1_e hf
        have hp18 : List.Perm (wbALL K g z0 y0) ((wbX5 K (g 5) (z0 5)) ++ ([0, 1, 2, 3, 4, 6, 7, 8, 9, 10, 11, 12, 13, 14].map (bfALL K g z0 y0)).flatten) := wbALL_perm [5, 0, 1, 2, 3, 4, 6, 7, 8, 9, 10, 11, 12, 13, 14] (by decide)
        refine z_V (n := 2) (As := [.int x2, .int x3]) (rest := []) (ci := 5) (q0 := 0) X hK hN (kX5_refuses l D K (g 5) (z0 5) _ x2 x3 r16 hc17) (bw_V W39_17 W39_18 W39_19 W2_22 W39_20) rfl ⟨rfl, rfl⟩ (by decide +kernel) rfl ⟨Nat.le_of_ble_eq_true rfl, Nat.le_of_ble_eq_true rfl⟩ (hP.perm hp18).lef (hD.perm hp18).lef rfl rfl (zj_perm (ws' := wbALL K g z0 y0) hP hD hS hA hp18 (by refine List.Perm.symm ?_; exact wbALL_perm [5, 0, 1, 2, 3, 4, 6, 7, 8, 9, 10, 11, 12, 13, 14] (by decide))) hS hl.1 rfl (Nat.le_of_ble_eq_true rfl) dX8_get_26 ⟨Nat.zero_le _, Nat.zero_le _⟩ rfl (fun H locs hP hD hS => ?_)
        refine lv_istore (lv' := [(4, .int r16), (0, .ref (g 0 0)), (1, .int x1), (2, .int x2), (3, .int x3)]) X.1 X.2.1 dX8_get_29 hl (by decide) rfl (fun ls hl => ?_)
        refine lv_iload X.1 X.2.1 dX8_get_31 (lv_at hl 0 rfl) ?_
        refine lv_if_eq (tgt := 46) X.1 X.2.1 dX8_get_33 (by decide) (fun c19 => ?_) (fun c19 => ?_)
        · have hf := ite_t hf c19
          refine lv_aload_n X.1 X.2.1 dX8_get_46 rfl (lv_at hl 1 rfl) ?_
          refine z_get X hK hP hiX8 0 rfl rfl 1 (by decide) (bw_in W1_15) rfl dX8_get_47 ?_
          refine lv_iload_n X.1 X.2.1 dX8_get_50 rfl (lv_at hl 2 rfl) ?_
          refine z_aald X hK hP 2 3 rfl rfl (by rw [c15]; exact vp_lit _ _ (by decide)) (by rw [c15] <;> rfl) dX8_get_51 ?_
          refine z_get X hK hP hiX5 11 rfl rfl 3 (by decide) (bw_in W31_12) rfl dX8_get_52 ?_
          refine lv_iload_n X.1 X.2.1 dX8_get_55 rfl (lv_at hl 4 rfl) ?_
          obtain ⟨hi21, hf⟩ := chk_e hf
          obtain ⟨v20, ev20, hf⟩ := stp_e hf
          refine z_iald X hK hP 12 rfl hi21 ev20 dX8_get_56 ?_
          obtain ⟨rfl, rfl⟩ := z_inj2 hf
          exact z_iret X hr hlk hP hD hS dX8_get_57
        · have hf := ite_f hf c19
          refine lv_aload_n X.1 X.2.1 dX8_get_36 rfl (lv_at hl 1 rfl) ?_
          refine lv_iload X.1 X.2.1 dX8_get_37 (lv_at hl 0 rfl) ?_
          obtain ⟨z22, ez22, hf⟩ := stp_e hf
          refine z_put (ws' := wbALL K g z22 y0) X hK hP hD hS hiX8 tyX8_ok nmX8 0 rfl rfl 9 (by decide) (bw_in W2_17) rfl rfl rfl (Nat.le_of_ble_eq_true rfl) dX8_get_39 (by rw [ez22]; rfl) (fun H locs hP hD hS => ?_)
          refine lv_ldcw (v := -2147483648) X.1 X.2.1 X.2.2.2.1 (X.2.2.2.2 _ (bw_in W40_17)) dX8_get_42 ?_
          obtain ⟨rfl, rfl⟩ := z_inj2 hf
          exact z_iret X hr hlk hP hD hS dX8_get_45
      have hf := ite_f hf c15
      by_cases c23 : x1 = 2
      · have hf := ite_t hf c23
        refine z_aald X hK hP 2 3 rfl rfl (by rw [c23]; exact vp_lit _ _ (by decide)) (by rw [c23] <;> rfl) dX8_get_23 ?_
        refine lv_iload_n X.1 X.2.1 dX8_get_24 rfl (lv_at hl 2 rfl) ?_
        refine lv_iload_n X.1 X.2.1 dX8_get_25 rfl (lv_at hl 3 rfl) ?_
        obtain ⟨r24, hc25, hf⟩ := bd1_e hf
        have hp26 : List.Perm (wbALL K g z0 y0) ((wbX5 K (g 6) (z0 6)) ++ ([0, 1, 2, 3, 4, 5, 7, 8, 9, 10, 11, 12, 13, 14].map (bfALL K g z0 y0)).flatten) := wbALL_perm [6, 0, 1, 2, 3, 4, 5, 7, 8, 9, 10, 11, 12, 13, 14] (by decide)
        refine z_V (n := 2) (As := [.int x2, .int x3]) (rest := []) (ci := 5) (q0 := 0) X hK hN (kX5_refuses l D K (g 6) (z0 6) _ x2 x3 r24 hc25) (bw_V W39_17 W39_18 W39_19 W2_22 W39_20) rfl ⟨rfl, rfl⟩ (by decide +kernel) rfl ⟨Nat.le_of_ble_eq_true rfl, Nat.le_of_ble_eq_true rfl⟩ (hP.perm hp26).lef (hD.perm hp26).lef rfl rfl (zj_perm (ws' := wbALL K g z0 y0) hP hD hS hA hp26 (by refine List.Perm.symm ?_; exact wbALL_perm [6, 0, 1, 2, 3, 4, 5, 7, 8, 9, 10, 11, 12, 13, 14] (by decide))) hS hl.1 rfl (Nat.le_of_ble_eq_true rfl) dX8_get_26 ⟨Nat.zero_le _, Nat.zero_le _⟩ rfl (fun H locs hP hD hS => ?_)
        refine lv_istore (lv' := [(4, .int r24), (0, .ref (g 0 0)), (1, .int x1), (2, .int x2), (3, .int x3)]) X.1 X.2.1 dX8_get_29 hl (by decide) rfl (fun ls hl => ?_)
        refine lv_iload X.1 X.2.1 dX8_get_31 (lv_at hl 0 rfl) ?_
        refine lv_if_eq (tgt := 46) X.1 X.2.1 dX8_get_33 (by decide) (fun c27 => ?_) (fun c27 => ?_)
        · have hf := ite_t hf c27
          refine lv_aload_n X.1 X.2.1 dX8_get_46 rfl (lv_at hl 1 rfl) ?_
          refine z_get X hK hP hiX8 0 rfl rfl 1 (by decide) (bw_in W1_15) rfl dX8_get_47 ?_
          refine lv_iload_n X.1 X.2.1 dX8_get_50 rfl (lv_at hl 2 rfl) ?_
          refine z_aald X hK hP 2 3 rfl rfl (by rw [c23]; exact vp_lit _ _ (by decide)) (by rw [c23] <;> rfl) dX8_get_51 ?_
          refine z_get X hK hP hiX5 13 rfl rfl 3 (by decide) (bw_in W31_12) rfl dX8_get_52 ?_
          refine lv_iload_n X.1 X.2.1 dX8_get_55 rfl (lv_at hl 4 rfl) ?_
          obtain ⟨hi29, hf⟩ := chk_e hf
          obtain ⟨v28, ev28, hf⟩ := stp_e hf
          refine z_iald X hK hP 14 rfl hi29 ev28 dX8_get_56 ?_
          obtain ⟨rfl, rfl⟩ := z_inj2 hf
          exact z_iret X hr hlk hP hD hS dX8_get_57
        · have hf := ite_f hf c27
          refine lv_aload_n X.1 X.2.1 dX8_get_36 rfl (lv_at hl 1 rfl) ?_
          refine lv_iload X.1 X.2.1 dX8_get_37 (lv_at hl 0 rfl) ?_
          obtain ⟨z30, ez30, hf⟩ := stp_e hf
          refine z_put (ws' := wbALL K g z30 y0) X hK hP hD hS hiX8 tyX8_ok nmX8 0 rfl rfl 9 (by decide) (bw_in W2_17) rfl rfl rfl (Nat.le_of_ble_eq_true rfl) dX8_get_39 (by rw [ez30]; rfl) (fun H locs hP hD hS => ?_)
          refine lv_ldcw (v := -2147483648) X.1 X.2.1 X.2.2.2.1 (X.2.2.2.2 _ (bw_in W40_17)) dX8_get_42 ?_
          obtain ⟨rfl, rfl⟩ := z_inj2 hf
          exact z_iret X hr hlk hP hD hS dX8_get_45
      have hf := ite_f hf c23
      by_cases c31 : x1 = 3
      · have hf := ite_t hf c31
        refine z_aald X hK hP 2 3 rfl rfl (by rw [c31]; exact vp_lit _ _ (by decide)) (by rw [c31] <;> rfl) dX8_get_23 ?_
        refine lv_iload_n X.1 X.2.1 dX8_get_24 rfl (lv_at hl 2 rfl) ?_
        refine lv_iload_n X.1 X.2.1 dX8_get_25 rfl (lv_at hl 3 rfl) ?_
        obtain ⟨r32, hc33, hf⟩ := bd1_e hf
        have hp34 : List.Perm (wbALL K g z0 y0) ((wbX5 K (g 7) (z0 7)) ++ ([0, 1, 2, 3, 4, 5, 6, 8, 9, 10, 11, 12, 13, 14].map (bfALL K g z0 y0)).flatten) := wbALL_perm [7, 0, 1, 2, 3, 4, 5, 6, 8, 9, 10, 11, 12, 13, 14] (by decide)
        refine z_V (n := 2) (As := [.int x2, .int x3]) (rest := []) (ci := 5) (q0 := 0) X hK hN (kX5_refuses l D K (g 7) (z0 7) _ x2 x3 r32 hc33) (bw_V W39_17 W39_18 W39_19 W2_22 W39_20) rfl ⟨rfl, rfl⟩ (by decide +kernel) rfl ⟨Nat.le_of_ble_eq_true rfl, Nat.le_of_ble_eq_true rfl⟩ (hP.perm hp34).lef (hD.perm hp34).lef rfl rfl (zj_perm (ws' := wbALL K g z0 y0) hP hD hS hA hp34 (by refine List.Perm.symm ?_; exact wbALL_perm [7, 0, 1, 2, 3, 4, 5, 6, 8, 9, 10, 11, 12, 13, 14] (by decide))) hS hl.1 rfl (Nat.le_of_ble_eq_true rfl) dX8_get_26 ⟨Nat.zero_le _, Nat.zero_le _⟩ rfl (fun H locs hP hD hS => ?_)
        refine lv_istore (lv' := [(4, .int r32), (0, .ref (g 0 0)), (1, .int x1), (2, .int x2), (3, .int x3)]) X.1 X.2.1 dX8_get_29 hl (by decide) rfl (fun ls hl => ?_)
        refine lv_iload X.1 X.2.1 dX8_get_31 (lv_at hl 0 rfl) ?_
        refine lv_if_eq (tgt := 46) X.1 X.2.1 dX8_get_33 (by decide) (fun c35 => ?_) (fun c35 => ?_)
        · have hf := ite_t hf c35
          refine lv_aload_n X.1 X.2.1 dX8_get_46 rfl (lv_at hl 1 rfl) ?_
          refine z_get X hK hP hiX8 0 rfl rfl 1 (by decide) (bw_in W1_15) rfl dX8_get_47 ?_
          refine lv_iload_n X.1 X.2.1 dX8_get_50 rfl (lv_at hl 2 rfl) ?_
          refine z_aald X hK hP 2 3 rfl rfl (by rw [c31]; exact vp_lit _ _ (by decide)) (by rw [c31] <;> rfl) dX8_get_51 ?_
          refine z_get X hK hP hiX5 15 rfl rfl 3 (by decide) (bw_in W31_12) rfl dX8_get_52 ?_
          refine lv_iload_n X.1 X.2.1 dX8_get_55 rfl (lv_at hl 4 rfl) ?_
          obtain ⟨hi37, hf⟩ := chk_e hf
          obtain ⟨v36, ev36, hf⟩ := stp_e hf
          refine z_iald X hK hP 16 rfl hi37 ev36 dX8_get_56 ?_
          obtain ⟨rfl, rfl⟩ := z_inj2 hf
          exact z_iret X hr hlk hP hD hS dX8_get_57
        · have hf := ite_f hf c35
          refine lv_aload_n X.1 X.2.1 dX8_get_36 rfl (lv_at hl 1 rfl) ?_
          refine lv_iload X.1 X.2.1 dX8_get_37 (lv_at hl 0 rfl) ?_
          obtain ⟨z38, ez38, hf⟩ := stp_e hf
          refine z_put (ws' := wbALL K g z38 y0) X hK hP hD hS hiX8 tyX8_ok nmX8 0 rfl rfl 9 (by decide) (bw_in W2_17) rfl rfl rfl (Nat.le_of_ble_eq_true rfl) dX8_get_39 (by rw [ez38]; rfl) (fun H locs hP hD hS => ?_)
          refine lv_ldcw (v := -2147483648) X.1 X.2.1 X.2.2.2.1 (X.2.2.2.2 _ (bw_in W40_17)) dX8_get_42 ?_
          obtain ⟨rfl, rfl⟩ := z_inj2 hf
          exact z_iret X hr hlk hP hD hS dX8_get_45
      have hf := ite_f hf c31
      cases hf
    · have hf := ite_f hf c6
      refine lv_ldcw (v := -2147483648) X.1 X.2.1 X.2.2.2.1 (X.2.2.2.2 _ (bw_in W40_17)) dX8_get_14 ?_
      obtain ⟨rfl, rfl⟩ := z_inj2 hf
      exact z_iret X hr hlk hP hD hS dX8_get_17
abbrev rmX8_lose : Room := { frames := 1, cells := 0, slots := 0, locals := 21 }
set_option maxHeartbeats 4000000 in
set_option maxRecDepth 100000 in
theorem kX8_lose (l : Launch) (D : va_G) (K : Nat → ClassId) (g : Nat → Nat → Nat) (z0 : Nat → St) (y0 : Nat → Lt) (sz : Nat) (x1 : Int32) (q_ : Int32) (z_ : Nat → St) (hf : fX8_lose z0 y0 x1 = some (q_, z_)) : Met l yX8_lose (bw (Cond.code yX8_lose cX8_lose 2 (some .int))) rmX8_lose (va_Pc [.ref (g 0 0), .int x1] (zB D K sz (wbALL K g z0 y0))) (zQ (some (.int q_)) D (va_A (wbALL K g z0 y0) sz) (wbALL K g z_ y0)) 0 0 (va_A (wbALL K g z0 y0) sz) := by
  refine z_of (cc := cX8_lose) (maxL := 2) (ret := (some .int)) (own := RX8) (lv := [(0, .ref (g 0 0)), (1, .int x1)]) (by decide) rfl rfl (Nat.le_of_ble_eq_true rfl) rfl ?_
  intro p e s m below meth c X hr hlk hK hN hsz hP hD hA hS hin ls hl
  generalize va_A (wbALL K g z0 y0) sz = A at hD hA hS hN ⊢
  have hiX5 : ∀ w ∈ u_ws RX5 TX5 4, w ∈ (bw (Cond.code yX8_lose cX8_lose 2 (some .int))) := fun w h => bw_in (inlX5 w h)
  have hiX8 : ∀ w ∈ u_ws RX8 TX8 11, w ∈ (bw (Cond.code yX8_lose cX8_lose 2 (some .int))) := fun w h => bw_in (inlX8 w h)
  rw [fX8_lose] at hf
  refine lv_iload_n X.1 X.2.1 dX8_lose_0 rfl (lv_at hl 1 rfl) ?_
  obtain ⟨r1, hc2, hf⟩ := bd1_e hf
  refine z_S (n := 1) (As := [.int x1]) (rest := []) X hK hN (kX8_noSuchSheet l D K _ x1 r1 hc2) (bw_S W31_13 W31_14 W1_2 W31_15) rfl ⟨rfl, rfl⟩ (by decide +kernel) rfl ⟨Nat.le_of_ble_eq_true rfl, Nat.le_of_ble_eq_true rfl⟩ (fun _ _ h => by simp at h) ⟨fun _ _ _ _ h => by simp at h, fun _ _ h => by simp at h⟩ (zj_none hP hD hS hA) hS hl.1 rfl (Nat.le_of_ble_eq_true rfl) dX8_lose_1 ⟨Nat.zero_le _, Nat.zero_le _⟩ rfl (fun H locs hP hD hS => ?_)
  refine lv_if_eq (tgt := 10) X.1 X.2.1 dX8_lose_4 (by decide) (fun c3 => ?_) (fun c3 => ?_)
  · have hf := ite_t hf c3
    refine lv_aload_n X.1 X.2.1 dX8_lose_10 rfl (lv_at hl 0 rfl) ?_
    refine z_get X hK hP hiX8 0 rfl rfl 1 (by decide) (bw_in W1_15) rfl dX8_lose_11 ?_
    refine lv_iload_n X.1 X.2.1 dX8_lose_14 rfl (lv_at hl 1 rfl) ?_
    by_cases c4 : x1 = 0
    · have hf := ite_t hf c4
      refine z_aald X hK hP 2 3 rfl rfl (by rw [c4]; exact vp_lit _ _ (by decide)) (by rw [c4] <;> rfl) dX8_lose_15 ?_
      refine z_get X hK hP hiX5 9 rfl rfl 0 (by decide) (bw_in W31_10) rfl dX8_lose_16 ?_
      refine lv_if_eq (tgt := 28) X.1 X.2.1 dX8_lose_19 (by decide) (fun c5 => ?_) (fun c5 => ?_)
      · have hf := ite_t hf c5
        refine lv_aload_n X.1 X.2.1 dX8_lose_28 rfl (lv_at hl 0 rfl) ?_
        refine z_get X hK hP hiX8 0 rfl rfl 1 (by decide) (bw_in W1_15) rfl dX8_lose_29 ?_
        refine lv_iload_n X.1 X.2.1 dX8_lose_32 rfl (lv_at hl 1 rfl) ?_
        refine z_aald X hK hP 2 3 rfl rfl (by rw [c4]; exact vp_lit _ _ (by decide)) (by rw [c4] <;> rfl) dX8_lose_33 ?_
        refine lv_iconst (v := 1) X.1 X.2.1 dX8_lose_34 (by decide) ?_
        obtain ⟨z6, ez6, hf⟩ := stp_e hf
        refine z_put (ws' := wbALL K g z6 y0) X hK hP hD hS hiX5 tyX5_ok nmX5 9 rfl rfl 0 (by decide) (bw_in W31_10) rfl (by decide) (by decide) (Nat.le_of_ble_eq_true rfl) dX8_lose_35 (by rw [ez6]; rfl) (fun H locs hP hD hS => ?_)
        refine lv_aload_n X.1 X.2.1 dX8_lose_38 rfl (lv_at hl 0 rfl) ?_
        refine z_get X hK hP hiX8 0 rfl rfl 1 (by decide) (bw_in W1_15) rfl dX8_lose_39 ?_
        refine lv_iload_n X.1 X.2.1 dX8_lose_42 rfl (lv_at hl 1 rfl) ?_
        refine z_aald X hK hP 2 3 rfl rfl (by rw [c4]; exact vp_lit _ _ (by decide)) (by rw [c4] <;> rfl) dX8_lose_43 ?_
        refine z_get X hK hP hiX5 9 rfl rfl 2 (by decide) (bw_in W31_11) rfl dX8_lose_44 ?_
        obtain ⟨rfl, rfl⟩ := z_inj2 hf
        exact z_iret X hr hlk hP hD hS dX8_lose_47
      · have hf := ite_f hf c5
        refine lv_aload_n X.1 X.2.1 dX8_lose_22 rfl (lv_at hl 0 rfl) ?_
        refine lv_iconst (v := 1) X.1 X.2.1 dX8_lose_23 (by decide) ?_
        obtain ⟨r7, z8, hc9, hf⟩ := bd2_e hf
        refine z_V (n := 1) (As := [.int 1]) (rest := []) (ci := 8) (q0 := 0) X hK hN (kX8_find l D K g z0 y0 _ 1 r7 z8 hc9) (bw_V W31_16 W31_17 W31_18 W1_2 W31_19) rfl ⟨rfl, rfl⟩ (by decide +kernel) rfl ⟨Nat.le_of_ble_eq_true rfl, Nat.le_of_ble_eq_true rfl⟩ hP hD rfl rfl (zj_same hD hS hA) hS hl.1 rfl (Nat.le_of_ble_eq_true rfl) dX8_lose_24 ⟨Nat.zero_le _, Nat.zero_le _⟩ rfl (fun H locs hP hD hS => ?_)
        obtain ⟨rfl, rfl⟩ := z_inj2 hf
        exact z_iret X hr hlk hP hD hS dX8_lose_27
    have hf := ite_f hf c4
    by_cases c10 : x1 = 1
    · have hf := ite_t hf c10
      refine z_aald X hK hP 2 3 rfl rfl (by rw [c10]; exact vp_lit _ _ (by decide)) (by rw [c10] <;> rfl) dX8_lose_15 ?_
      refine z_get X hK hP hiX5 11 rfl rfl 0 (by decide) (bw_in W31_10) rfl dX8_lose_16 ?_
      refine lv_if_eq (tgt := 28) X.1 X.2.1 dX8_lose_19 (by decide) (fun c11 => ?_) (fun c11 => ?_)
      · have hf := ite_t hf c11
        refine lv_aload_n X.1 X.2.1 dX8_lose_28 rfl (lv_at hl 0 rfl) ?_
        refine z_get X hK hP hiX8 0 rfl rfl 1 (by decide) (bw_in W1_15) rfl dX8_lose_29 ?_
        refine lv_iload_n X.1 X.2.1 dX8_lose_32 rfl (lv_at hl 1 rfl) ?_
        refine z_aald X hK hP 2 3 rfl rfl (by rw [c10]; exact vp_lit _ _ (by decide)) (by rw [c10] <;> rfl) dX8_lose_33 ?_
        refine lv_iconst (v := 1) X.1 X.2.1 dX8_lose_34 (by decide) ?_
        obtain ⟨z12, ez12, hf⟩ := stp_e hf
        refine z_put (ws' := wbALL K g z12 y0) X hK hP hD hS hiX5 tyX5_ok nmX5 11 rfl rfl 0 (by decide) (bw_in W31_10) rfl (by decide) (by decide) (Nat.le_of_ble_eq_true rfl) dX8_lose_35 (by rw [ez12]; rfl) (fun H locs hP hD hS => ?_)
        refine lv_aload_n X.1 X.2.1 dX8_lose_38 rfl (lv_at hl 0 rfl) ?_
        refine z_get X hK hP hiX8 0 rfl rfl 1 (by decide) (bw_in W1_15) rfl dX8_lose_39 ?_
        refine lv_iload_n X.1 X.2.1 dX8_lose_42 rfl (lv_at hl 1 rfl) ?_
        refine z_aald X hK hP 2 3 rfl rfl (by rw [c10]; exact vp_lit _ _ (by decide)) (by rw [c10] <;> rfl) dX8_lose_43 ?_
        refine z_get X hK hP hiX5 11 rfl rfl 2 (by decide) (bw_in W31_11) rfl dX8_lose_44 ?_
        obtain ⟨rfl, rfl⟩ := z_inj2 hf
        exact z_iret X hr hlk hP hD hS dX8_lose_47
      · have hf := ite_f hf c11
        refine lv_aload_n X.1 X.2.1 dX8_lose_22 rfl (lv_at hl 0 rfl) ?_
        refine lv_iconst (v := 1) X.1 X.2.1 dX8_lose_23 (by decide) ?_
        obtain ⟨r13, z14, hc15, hf⟩ := bd2_e hf
        refine z_V (n := 1) (As := [.int 1]) (rest := []) (ci := 8) (q0 := 0) X hK hN (kX8_find l D K g z0 y0 _ 1 r13 z14 hc15) (bw_V W31_16 W31_17 W31_18 W1_2 W31_19) rfl ⟨rfl, rfl⟩ (by decide +kernel) rfl ⟨Nat.le_of_ble_eq_true rfl, Nat.le_of_ble_eq_true rfl⟩ hP hD rfl rfl (zj_same hD hS hA) hS hl.1 rfl (Nat.le_of_ble_eq_true rfl) dX8_lose_24 ⟨Nat.zero_le _, Nat.zero_le _⟩ rfl (fun H locs hP hD hS => ?_)
        obtain ⟨rfl, rfl⟩ := z_inj2 hf
        exact z_iret X hr hlk hP hD hS dX8_lose_27
    have hf := ite_f hf c10
    by_cases c16 : x1 = 2
    · have hf := ite_t hf c16
      refine z_aald X hK hP 2 3 rfl rfl (by rw [c16]; exact vp_lit _ _ (by decide)) (by rw [c16] <;> rfl) dX8_lose_15 ?_
      refine z_get X hK hP hiX5 13 rfl rfl 0 (by decide) (bw_in W31_10) rfl dX8_lose_16 ?_
      refine lv_if_eq (tgt := 28) X.1 X.2.1 dX8_lose_19 (by decide) (fun c17 => ?_) (fun c17 => ?_)
      · have hf := ite_t hf c17
        refine lv_aload_n X.1 X.2.1 dX8_lose_28 rfl (lv_at hl 0 rfl) ?_
        refine z_get X hK hP hiX8 0 rfl rfl 1 (by decide) (bw_in W1_15) rfl dX8_lose_29 ?_
        refine lv_iload_n X.1 X.2.1 dX8_lose_32 rfl (lv_at hl 1 rfl) ?_
        refine z_aald X hK hP 2 3 rfl rfl (by rw [c16]; exact vp_lit _ _ (by decide)) (by rw [c16] <;> rfl) dX8_lose_33 ?_
        refine lv_iconst (v := 1) X.1 X.2.1 dX8_lose_34 (by decide) ?_
        obtain ⟨z18, ez18, hf⟩ := stp_e hf
        refine z_put (ws' := wbALL K g z18 y0) X hK hP hD hS hiX5 tyX5_ok nmX5 13 rfl rfl 0 (by decide) (bw_in W31_10) rfl (by decide) (by decide) (Nat.le_of_ble_eq_true rfl) dX8_lose_35 (by rw [ez18]; rfl) (fun H locs hP hD hS => ?_)
        refine lv_aload_n X.1 X.2.1 dX8_lose_38 rfl (lv_at hl 0 rfl) ?_
        refine z_get X hK hP hiX8 0 rfl rfl 1 (by decide) (bw_in W1_15) rfl dX8_lose_39 ?_
        refine lv_iload_n X.1 X.2.1 dX8_lose_42 rfl (lv_at hl 1 rfl) ?_
        refine z_aald X hK hP 2 3 rfl rfl (by rw [c16]; exact vp_lit _ _ (by decide)) (by rw [c16] <;> rfl) dX8_lose_43 ?_
        refine z_get X hK hP hiX5 13 rfl rfl 2 (by decide) (bw_in W31_11) rfl dX8_lose_44 ?_
        obtain ⟨rfl, rfl⟩ := z_inj2 hf
        exact z_iret X hr hlk hP hD hS dX8_lose_47
      · have hf := ite_f hf c17
        refine lv_aload_n X.1 X.2.1 dX8_lose_22 rfl (lv_at hl 0 rfl) ?_
        refine lv_iconst (v := 1) X.1 X.2.1 dX8_lose_23 (by decide) ?_
        obtain ⟨r19, z20, hc21, hf⟩ := bd2_e hf
        refine z_V (n := 1) (As := [.int 1]) (rest := []) (ci := 8) (q0 := 0) X hK hN (kX8_find l D K g z0 y0 _ 1 r19 z20 hc21) (bw_V W31_16 W31_17 W31_18 W1_2 W31_19) rfl ⟨rfl, rfl⟩ (by decide +kernel) rfl ⟨Nat.le_of_ble_eq_true rfl, Nat.le_of_ble_eq_true rfl⟩ hP hD rfl rfl (zj_same hD hS hA) hS hl.1 rfl (Nat.le_of_ble_eq_true rfl) dX8_lose_24 ⟨Nat.zero_le _, Nat.zero_le _⟩ rfl (fun H locs hP hD hS => ?_)
        obtain ⟨rfl, rfl⟩ := z_inj2 hf
        exact z_iret X hr hlk hP hD hS dX8_lose_27
    have hf := ite_f hf c16
    by_cases c22 : x1 = 3
    · have hf := ite_t hf c22
      refine z_aald X hK hP 2 3 rfl rfl (by rw [c22]; exact vp_lit _ _ (by decide)) (by rw [c22] <;> rfl) dX8_lose_15 ?_
      refine z_get X hK hP hiX5 15 rfl rfl 0 (by decide) (bw_in W31_10) rfl dX8_lose_16 ?_
      refine lv_if_eq (tgt := 28) X.1 X.2.1 dX8_lose_19 (by decide) (fun c23 => ?_) (fun c23 => ?_)
      · have hf := ite_t hf c23
        refine lv_aload_n X.1 X.2.1 dX8_lose_28 rfl (lv_at hl 0 rfl) ?_
        refine z_get X hK hP hiX8 0 rfl rfl 1 (by decide) (bw_in W1_15) rfl dX8_lose_29 ?_
        refine lv_iload_n X.1 X.2.1 dX8_lose_32 rfl (lv_at hl 1 rfl) ?_
        refine z_aald X hK hP 2 3 rfl rfl (by rw [c22]; exact vp_lit _ _ (by decide)) (by rw [c22] <;> rfl) dX8_lose_33 ?_
        refine lv_iconst (v := 1) X.1 X.2.1 dX8_lose_34 (by decide) ?_
        obtain ⟨z24, ez24, hf⟩ := stp_e hf
        refine z_put (ws' := wbALL K g z24 y0) X hK hP hD hS hiX5 tyX5_ok nmX5 15 rfl rfl 0 (by decide) (bw_in W31_10) rfl (by decide) (by decide) (Nat.le_of_ble_eq_true rfl) dX8_lose_35 (by rw [ez24]; rfl) (fun H locs hP hD hS => ?_)
        refine lv_aload_n X.1 X.2.1 dX8_lose_38 rfl (lv_at hl 0 rfl) ?_
        refine z_get X hK hP hiX8 0 rfl rfl 1 (by decide) (bw_in W1_15) rfl dX8_lose_39 ?_
        refine lv_iload_n X.1 X.2.1 dX8_lose_42 rfl (lv_at hl 1 rfl) ?_
        refine z_aald X hK hP 2 3 rfl rfl (by rw [c22]; exact vp_lit _ _ (by decide)) (by rw [c22] <;> rfl) dX8_lose_43 ?_
        refine z_get X hK hP hiX5 15 rfl rfl 2 (by decide) (bw_in W31_11) rfl dX8_lose_44 ?_
        obtain ⟨rfl, rfl⟩ := z_inj2 hf
        exact z_iret X hr hlk hP hD hS dX8_lose_47
      · have hf := ite_f hf c23
        refine lv_aload_n X.1 X.2.1 dX8_lose_22 rfl (lv_at hl 0 rfl) ?_
        refine lv_iconst (v := 1) X.1 X.2.1 dX8_lose_23 (by decide) ?_
        obtain ⟨r25, z26, hc27, hf⟩ := bd2_e hf
        refine z_V (n := 1) (As := [.int 1]) (rest := []) (ci := 8) (q0 := 0) X hK hN (kX8_find l D K g z0 y0 _ 1 r25 z26 hc27) (bw_V W31_16 W31_17 W31_18 W1_2 W31_19) rfl ⟨rfl, rfl⟩ (by decide +kernel) rfl ⟨Nat.le_of_ble_eq_true rfl, Nat.le_of_ble_eq_true rfl⟩ hP hD rfl rfl (zj_same hD hS hA) hS hl.1 rfl (Nat.le_of_ble_eq_true rfl) dX8_lose_24 ⟨Nat.zero_le _, Nat.zero_le _⟩ rfl (fun H locs hP hD hS => ?_)
        obtain ⟨rfl, rfl⟩ := z_inj2 hf
        exact z_iret X hr hlk hP hD hS dX8_lose_27
    have hf := ite_f hf c22
    cases hf
  · have hf := ite_f hf c3
    refine lv_bipush (v := -2) X.1 X.2.1 dX8_lose_7 (by decide) ?_
    obtain ⟨rfl, rfl⟩ := z_inj2 hf
    exact z_iret X hr hlk hP hD hS dX8_lose_9
abbrev rmX8_put : Room := { frames := 1, cells := 0, slots := 0, locals := 22 }
set_option maxHeartbeats 4000000 in
set_option maxRecDepth 100000 in
theorem kX8_put (l : Launch) (D : va_G) (K : Nat → ClassId) (g : Nat → Nat → Nat) (z0 : Nat → St) (y0 : Nat → Lt) (sz : Nat) (x1 : Int32) (x2 : Int32) (x3 : Int32) (x4 : Int32) (q_ : Int32) (z_ : Nat → St) (hf : fX8_put z0 y0 x1 x2 x3 x4 = some (q_, z_)) : Met l yX8_put (bw (Cond.code yX8_put cX8_put 6 (some .int))) rmX8_put (va_Pc [.ref (g 0 0), .int x1, .int x2, .int x3, .int x4] (zB D K sz (wbALL K g z0 y0))) (zQ (some (.int q_)) D (va_A (wbALL K g z0 y0) sz) (wbALL K g z_ y0)) 0 0 (va_A (wbALL K g z0 y0) sz) := by
  refine z_of (cc := cX8_put) (maxL := 6) (ret := (some .int)) (own := RX8) (lv := [(0, .ref (g 0 0)), (1, .int x1), (2, .int x2), (3, .int x3), (4, .int x4)]) (by decide) rfl rfl (Nat.le_of_ble_eq_true rfl) rfl ?_
  intro p e s m below meth c X hr hlk hK hN hsz hP hD hA hS hin ls hl
  generalize va_A (wbALL K g z0 y0) sz = A at hD hA hS hN ⊢
  have hiX8 : ∀ w ∈ u_ws RX8 TX8 11, w ∈ (bw (Cond.code yX8_put cX8_put 6 (some .int))) := fun w h => bw_in (inlX8 w h)
  rw [fX8_put] at hf
  refine lv_iload_n X.1 X.2.1 dX8_put_0 rfl (lv_at hl 1 rfl) ?_
  obtain ⟨r1, hc2, hf⟩ := bd1_e hf
  refine z_S (n := 1) (As := [.int x1]) (rest := []) X hK hN (kX8_noSuchSheet l D K _ x1 r1 hc2) (bw_S W31_13 W31_14 W1_2 W31_15) rfl ⟨rfl, rfl⟩ (by decide +kernel) rfl ⟨Nat.le_of_ble_eq_true rfl, Nat.le_of_ble_eq_true rfl⟩ (fun _ _ h => by simp at h) ⟨fun _ _ _ _ h => by simp at h, fun _ _ h => by simp at h⟩ (zj_none hP hD hS hA) hS hl.1 rfl (Nat.le_of_ble_eq_true rfl) dX8_put_1 ⟨Nat.zero_le _, Nat.zero_le _⟩ rfl (fun H locs hP hD hS => ?_)
  refine lv_if_ne (tgt := 14) X.1 X.2.1 dX8_put_4 (by decide) (fun c3 => ?_) (fun c3 => ?_)
  · have hf := ite_f hf c3
    refine lv_bipush (v := -2) X.1 X.2.1 dX8_put_14 (by decide) ?_
    obtain ⟨rfl, rfl⟩ := z_inj2 hf
    exact z_iret X hr hlk hP hD hS dX8_put_16
  · have hf := ite_t hf c3
    refine lv_iload_n X.1 X.2.1 dX8_put_7 rfl (lv_at hl 2 rfl) ?_
    obtain ⟨r4, hc5, hf⟩ := bd1_e hf
    refine z_S (n := 1) (As := [.int x2]) (rest := []) X hK hN (kX8_noSuchForm l D K _ x2 r4 hc5) (bw_S W38_15 W38_16 W1_2 W38_17) rfl ⟨rfl, rfl⟩ (by decide +kernel) rfl ⟨Nat.le_of_ble_eq_true rfl, Nat.le_of_ble_eq_true rfl⟩ (fun _ _ h => by simp at h) ⟨fun _ _ _ _ h => by simp at h, fun _ _ h => by simp at h⟩ (zj_none hP hD hS hA) hS hl.1 rfl (Nat.le_of_ble_eq_true rfl) dX8_put_8 ⟨Nat.zero_le _, Nat.zero_le _⟩ rfl (fun H locs hP hD hS => ?_)
    refine lv_if_eq (tgt := 17) X.1 X.2.1 dX8_put_11 (by decide) (fun c6 => ?_) (fun c6 => ?_)
    · have hf := ite_t hf c6
      refine lv_aload_n X.1 X.2.1 dX8_put_17 rfl (lv_at hl 0 rfl) ?_
      refine z_get X hK hP hiX8 0 rfl rfl 1 (by decide) (bw_in W1_15) rfl dX8_put_18 ?_
      refine lv_iload_n X.1 X.2.1 dX8_put_21 rfl (lv_at hl 1 rfl) ?_
      by_cases c7 : x1 = 0
      · have hf := ite_t hf c7
        refine z_aald X hK hP 2 3 rfl rfl (by rw [c7]; exact vp_lit _ _ (by decide)) (by rw [c7] <;> rfl) dX8_put_22 ?_
        refine lv_iload_n X.1 X.2.1 dX8_put_23 rfl (lv_at hl 2 rfl) ?_
        refine lv_iload_n X.1 X.2.1 dX8_put_24 rfl (lv_at hl 3 rfl) ?_
        obtain ⟨r8, hc9, hf⟩ := bd1_e hf
        have hp10 : List.Perm (wbALL K g z0 y0) ((wbX5 K (g 4) (z0 4)) ++ ([0, 1, 2, 3, 5, 6, 7, 8, 9, 10, 11, 12, 13, 14].map (bfALL K g z0 y0)).flatten) := wbALL_perm [4, 0, 1, 2, 3, 5, 6, 7, 8, 9, 10, 11, 12, 13, 14] (by decide)
        refine z_V (n := 2) (As := [.int x2, .int x3]) (rest := []) (ci := 5) (q0 := 0) X hK hN (kX5_refuses l D K (g 4) (z0 4) _ x2 x3 r8 hc9) (bw_V W39_17 W39_18 W39_19 W2_22 W39_20) rfl ⟨rfl, rfl⟩ (by decide +kernel) rfl ⟨Nat.le_of_ble_eq_true rfl, Nat.le_of_ble_eq_true rfl⟩ (hP.perm hp10).lef (hD.perm hp10).lef rfl rfl (zj_perm (ws' := wbALL K g z0 y0) hP hD hS hA hp10 (by refine List.Perm.symm ?_; exact wbALL_perm [4, 0, 1, 2, 3, 5, 6, 7, 8, 9, 10, 11, 12, 13, 14] (by decide))) hS hl.1 rfl (Nat.le_of_ble_eq_true rfl) dX8_put_25 ⟨Nat.zero_le _, Nat.zero_le _⟩ rfl (fun H locs hP hD hS => ?_)
        refine lv_istore (lv' := [(5, .int r8), (0, .ref (g 0 0)), (1, .int x1), (2, .int x2), (3, .int x3), (4, .int x4)]) X.1 X.2.1 dX8_put_28 hl (by decide) rfl (fun ls hl => ?_)
        refine lv_iload X.1 X.2.1 dX8_put_30 (lv_at hl 0 rfl) ?_
        refine lv_if_eq (tgt := 42) X.1 X.2.1 dX8_put_32 (by decide) (fun c11 => ?_) (fun c11 => ?_)
        · have hf := ite_t hf c11
          refine lv_aload_n X.1 X.2.1 dX8_put_42 rfl (lv_at hl 1 rfl) ?_
          refine z_get X hK hP hiX8 0 rfl rfl 1 (by decide) (bw_in W1_15) rfl dX8_put_43 ?_
          refine lv_iload_n X.1 X.2.1 dX8_put_46 rfl (lv_at hl 2 rfl) ?_
          refine z_aald X hK hP 2 3 rfl rfl (by rw [c7]; exact vp_lit _ _ (by decide)) (by rw [c7] <;> rfl) dX8_put_47 ?_
          refine lv_iload_n X.1 X.2.1 dX8_put_48 rfl (lv_at hl 4 rfl) ?_
          refine lv_iload X.1 X.2.1 dX8_put_49 (lv_at hl 5 rfl) ?_
          obtain ⟨e12, hc13, hf⟩ := bd1_e hf
          obtain ⟨z14, ez14, hf⟩ := stp_e hf
          have hp15 : List.Perm (wbALL K g z0 y0) ((wbX5 K (g 4) (z0 4)) ++ ([0, 1, 2, 3, 5, 6, 7, 8, 9, 10, 11, 12, 13, 14].map (bfALL K g z0 y0)).flatten) := wbALL_perm [4, 0, 1, 2, 3, 5, 6, 7, 8, 9, 10, 11, 12, 13, 14] (by decide)
          refine z_V (n := 2) (As := [.int x3, .int x4]) (rest := []) (ci := 5) (q0 := 0) X hK hN (kX5_store l D K (g 4) (z0 4) _ x3 x4 e12 hc13) (bw_V W39_21 W39_22 W39_23 W2_22 W40_0) rfl ⟨rfl, rfl⟩ (by decide +kernel) rfl ⟨Nat.le_of_ble_eq_true rfl, Nat.le_of_ble_eq_true rfl⟩ (hP.perm hp15).lef (hD.perm hp15).lef rfl rfl (zj_perm (ws' := wbALL K g z14 y0) hP hD hS hA hp15 (by rw [ez14]; refine List.Perm.symm ?_; exact wbALL_perm [4, 0, 1, 2, 3, 5, 6, 7, 8, 9, 10, 11, 12, 13, 14] (by decide))) hS hl.1 rfl (Nat.le_of_ble_eq_true rfl) dX8_put_51 ⟨Nat.zero_le _, Nat.zero_le _⟩ rfl (fun H locs hP hD hS => ?_)
          refine lv_iconst (v := 1) X.1 X.2.1 dX8_put_54 (by decide) ?_
          obtain ⟨rfl, rfl⟩ := z_inj2 hf
          exact z_iret X hr hlk hP hD hS dX8_put_55
        · have hf := ite_f hf c11
          refine lv_aload_n X.1 X.2.1 dX8_put_35 rfl (lv_at hl 1 rfl) ?_
          refine lv_iload X.1 X.2.1 dX8_put_36 (lv_at hl 0 rfl) ?_
          obtain ⟨r16, z17, hc18, hf⟩ := bd2_e hf
          refine z_V (n := 1) (As := [.int r8]) (rest := []) (ci := 8) (q0 := 0) X hK hN (kX8_find l D K g z0 y0 _ r8 r16 z17 hc18) (bw_V W31_16 W31_17 W31_18 W1_2 W31_19) rfl ⟨rfl, rfl⟩ (by decide +kernel) rfl ⟨Nat.le_of_ble_eq_true rfl, Nat.le_of_ble_eq_true rfl⟩ hP hD rfl rfl (zj_same hD hS hA) hS hl.1 rfl (Nat.le_of_ble_eq_true rfl) dX8_put_38 ⟨Nat.zero_le _, Nat.zero_le _⟩ rfl (fun H locs hP hD hS => ?_)
          obtain ⟨rfl, rfl⟩ := z_inj2 hf
          exact z_iret X hr hlk hP hD hS dX8_put_41
      have hf := ite_f hf c7
      by_cases c19 : x1 = 1
      · have hf := ite_t hf c19
        refine z_aald X hK hP 2 3 rfl rfl (by rw [c19]; exact vp_lit _ _ (by decide)) (by rw [c19] <;> rfl) dX8_put_22 ?_
        refine lv_iload_n X.1 X.2.1 dX8_put_23 rfl (lv_at hl 2 rfl) ?_
        refine lv_iload_n X.1 X.2.1 dX8_put_24 rfl (lv_at hl 3 rfl) ?_
        obtain ⟨r20, hc21, hf⟩ := bd1_e hf
        have hp22 : List.Perm (wbALL K g z0 y0) ((wbX5 K (g 5) (z0 5)) ++ ([0, 1, 2, 3, 4, 6, 7, 8, 9, 10, 11, 12, 13, 14].map (bfALL K g z0 y0)).flatten) := wbALL_perm [5, 0, 1, 2, 3, 4, 6, 7, 8, 9, 10, 11, 12, 13, 14] (by decide)
        refine z_V (n := 2) (As := [.int x2, .int x3]) (rest := []) (ci := 5) (q0 := 0) X hK hN (kX5_refuses l D K (g 5) (z0 5) _ x2 x3 r20 hc21) (bw_V W39_17 W39_18 W39_19 W2_22 W39_20) rfl ⟨rfl, rfl⟩ (by decide +kernel) rfl ⟨Nat.le_of_ble_eq_true rfl, Nat.le_of_ble_eq_true rfl⟩ (hP.perm hp22).lef (hD.perm hp22).lef rfl rfl (zj_perm (ws' := wbALL K g z0 y0) hP hD hS hA hp22 (by refine List.Perm.symm ?_; exact wbALL_perm [5, 0, 1, 2, 3, 4, 6, 7, 8, 9, 10, 11, 12, 13, 14] (by decide))) hS hl.1 rfl (Nat.le_of_ble_eq_true rfl) dX8_put_25 ⟨Nat.zero_le _, Nat.zero_le _⟩ rfl (fun H locs hP hD hS => ?_)
        refine lv_istore (lv' := [(5, .int r20), (0, .ref (g 0 0)), (1, .int x1), (2, .int x2), (3, .int x3), (4, .int x4)]) X.1 X.2.1 dX8_put_28 hl (by decide) rfl (fun ls hl => ?_)
        refine lv_iload X.1 X.2.1 dX8_put_30 (lv_at hl 0 rfl) ?_
        refine lv_if_eq (tgt := 42) X.1 X.2.1 dX8_put_32 (by decide) (fun c23 => ?_) (fun c23 => ?_)
        · have hf := ite_t hf c23
          refine lv_aload_n X.1 X.2.1 dX8_put_42 rfl (lv_at hl 1 rfl) ?_
          refine z_get X hK hP hiX8 0 rfl rfl 1 (by decide) (bw_in W1_15) rfl dX8_put_43 ?_
          refine lv_iload_n X.1 X.2.1 dX8_put_46 rfl (lv_at hl 2 rfl) ?_
          refine z_aald X hK hP 2 3 rfl rfl (by rw [c19]; exact vp_lit _ _ (by decide)) (by rw [c19] <;> rfl) dX8_put_47 ?_
          refine lv_iload_n X.1 X.2.1 dX8_put_48 rfl (lv_at hl 4 rfl) ?_
          refine lv_iload X.1 X.2.1 dX8_put_49 (lv_at hl 5 rfl) ?_
          obtain ⟨e24, hc25, hf⟩ := bd1_e hf
          obtain ⟨z26, ez26, hf⟩ := stp_e hf
          have hp27 : List.Perm (wbALL K g z0 y0) ((wbX5 K (g 5) (z0 5)) ++ ([0, 1, 2, 3, 4, 6, 7, 8, 9, 10, 11, 12, 13, 14].map (bfALL K g z0 y0)).flatten) := wbALL_perm [5, 0, 1, 2, 3, 4, 6, 7, 8, 9, 10, 11, 12, 13, 14] (by decide)
          refine z_V (n := 2) (As := [.int x3, .int x4]) (rest := []) (ci := 5) (q0 := 0) X hK hN (kX5_store l D K (g 5) (z0 5) _ x3 x4 e24 hc25) (bw_V W39_21 W39_22 W39_23 W2_22 W40_0) rfl ⟨rfl, rfl⟩ (by decide +kernel) rfl ⟨Nat.le_of_ble_eq_true rfl, Nat.le_of_ble_eq_true rfl⟩ (hP.perm hp27).lef (hD.perm hp27).lef rfl rfl (zj_perm (ws' := wbALL K g z26 y0) hP hD hS hA hp27 (by rw [ez26]; refine List.Perm.symm ?_; exact wbALL_perm [5, 0, 1, 2, 3, 4, 6, 7, 8, 9, 10, 11, 12, 13, 14] (by decide))) hS hl.1 rfl (Nat.le_of_ble_eq_true rfl) dX8_put_51 ⟨Nat.zero_le _, Nat.zero_le _⟩ rfl (fun H locs hP hD hS => ?_)
          refine lv_iconst (v := 1) X.1 X.2.1 dX8_put_54 (by decide) ?_
          obtain ⟨rfl, rfl⟩ := z_inj2 hf
          exact z_iret X hr hlk hP hD hS dX8_put_55
        · have hf := ite_f hf c23
          refine lv_aload_n X.1 X.2.1 dX8_put_35 rfl (lv_at hl 1 rfl) ?_
          refine lv_iload X.1 X.2.1 dX8_put_36 (lv_at hl 0 rfl) ?_
          obtain ⟨r28, z29, hc30, hf⟩ := bd2_e hf
          refine z_V (n := 1) (As := [.int r20]) (rest := []) (ci := 8) (q0 := 0) X hK hN (kX8_find l D K g z0 y0 _ r20 r28 z29 hc30) (bw_V W31_16 W31_17 W31_18 W1_2 W31_19) rfl ⟨rfl, rfl⟩ (by decide +kernel) rfl ⟨Nat.le_of_ble_eq_true rfl, Nat.le_of_ble_eq_true rfl⟩ hP hD rfl rfl (zj_same hD hS hA) hS hl.1 rfl (Nat.le_of_ble_eq_true rfl) dX8_put_38 ⟨Nat.zero_le _, Nat.zero_le _⟩ rfl (fun H locs hP hD hS => ?_)
          obtain ⟨rfl, rfl⟩ := z_inj2 hf
          exact z_iret X hr hlk hP hD hS dX8_put_41
      have hf := ite_f hf c19
      by_cases c31 : x1 = 2
      · have hf := ite_t hf c31
        refine z_aald X hK hP 2 3 rfl rfl (by rw [c31]; exact vp_lit _ _ (by decide)) (by rw [c31] <;> rfl) dX8_put_22 ?_
        refine lv_iload_n X.1 X.2.1 dX8_put_23 rfl (lv_at hl 2 rfl) ?_
        refine lv_iload_n X.1 X.2.1 dX8_put_24 rfl (lv_at hl 3 rfl) ?_
        obtain ⟨r32, hc33, hf⟩ := bd1_e hf
        have hp34 : List.Perm (wbALL K g z0 y0) ((wbX5 K (g 6) (z0 6)) ++ ([0, 1, 2, 3, 4, 5, 7, 8, 9, 10, 11, 12, 13, 14].map (bfALL K g z0 y0)).flatten) := wbALL_perm [6, 0, 1, 2, 3, 4, 5, 7, 8, 9, 10, 11, 12, 13, 14] (by decide)
        refine z_V (n := 2) (As := [.int x2, .int x3]) (rest := []) (ci := 5) (q0 := 0) X hK hN (kX5_refuses l D K (g 6) (z0 6) _ x2 x3 r32 hc33) (bw_V W39_17 W39_18 W39_19 W2_22 W39_20) rfl ⟨rfl, rfl⟩ (by decide +kernel) rfl ⟨Nat.le_of_ble_eq_true rfl, Nat.le_of_ble_eq_true rfl⟩ (hP.perm hp34).lef (hD.perm hp34).lef rfl rfl (zj_perm (ws' := wbALL K g z0 y0) hP hD hS hA hp34 (by refine List.Perm.symm ?_; exact wbALL_perm [6, 0, 1, 2, 3, 4, 5, 7, 8, 9, 10, 11, 12, 13, 14] (by decide))) hS hl.1 rfl (Nat.le_of_ble_eq_true rfl) dX8_put_25 ⟨Nat.zero_le _, Nat.zero_le _⟩ rfl (fun H locs hP hD hS => ?_)
        refine lv_istore (lv' := [(5, .int r32), (0, .ref (g 0 0)), (1, .int x1), (2, .int x2), (3, .int x3), (4, .int x4)]) X.1 X.2.1 dX8_put_28 hl (by decide) rfl (fun ls hl => ?_)
        refine lv_iload X.1 X.2.1 dX8_put_30 (lv_at hl 0 rfl) ?_
        refine lv_if_eq (tgt := 42) X.1 X.2.1 dX8_put_32 (by decide) (fun c35 => ?_) (fun c35 => ?_)
        · have hf := ite_t hf c35
          refine lv_aload_n X.1 X.2.1 dX8_put_42 rfl (lv_at hl 1 rfl) ?_
          refine z_get X hK hP hiX8 0 rfl rfl 1 (by decide) (bw_in W1_15) rfl dX8_put_43 ?_
          refine lv_iload_n X.1 X.2.1 dX8_put_46 rfl (lv_at hl 2 rfl) ?_
          refine z_aald X hK hP 2 3 rfl rfl (by rw [c31]; exact vp_lit _ _ (by decide)) (by rw [c31] <;> rfl) dX8_put_47 ?_
          refine lv_iload_n X.1 X.2.1 dX8_put_48 rfl (lv_at hl 4 rfl) ?_
          refine lv_iload X.1 X.2.1 dX8_put_49 (lv_at hl 5 rfl) ?_
          obtain ⟨e36, hc37, hf⟩ := bd1_e hf
          obtain ⟨z38, ez38, hf⟩ := stp_e hf
          have hp39 : List.Perm (wbALL K g z0 y0) ((wbX5 K (g 6) (z0 6)) ++ ([0, 1, 2, 3, 4, 5, 7, 8, 9, 10, 11, 12, 13, 14].map (bfALL K g z0 y0)).flatten) := wbALL_perm [6, 0, 1, 2, 3, 4, 5, 7, 8, 9, 10, 11, 12, 13, 14] (by decide)
          refine z_V (n := 2) (As := [.int x3, .int x4]) (rest := []) (ci := 5) (q0 := 0) X hK hN (kX5_store l D K (g 6) (z0 6) _ x3 x4 e36 hc37) (bw_V W39_21 W39_22 W39_23 W2_22 W40_0) rfl ⟨rfl, rfl⟩ (by decide +kernel) rfl ⟨Nat.le_of_ble_eq_true rfl, Nat.le_of_ble_eq_true rfl⟩ (hP.perm hp39).lef (hD.perm hp39).lef rfl rfl (zj_perm (ws' := wbALL K g z38 y0) hP hD hS hA hp39 (by rw [ez38]; refine List.Perm.symm ?_; exact wbALL_perm [6, 0, 1, 2, 3, 4, 5, 7, 8, 9, 10, 11, 12, 13, 14] (by decide))) hS hl.1 rfl (Nat.le_of_ble_eq_true rfl) dX8_put_51 ⟨Nat.zero_le _, Nat.zero_le _⟩ rfl (fun H locs hP hD hS => ?_)
          refine lv_iconst (v := 1) X.1 X.2.1 dX8_put_54 (by decide) ?_
          obtain ⟨rfl, rfl⟩ := z_inj2 hf
          exact z_iret X hr hlk hP hD hS dX8_put_55
        · have hf := ite_f hf c35
          refine lv_aload_n X.1 X.2.1 dX8_put_35 rfl (lv_at hl 1 rfl) ?_
          refine lv_iload X.1 X.2.1 dX8_put_36 (lv_at hl 0 rfl) ?_
          obtain ⟨r40, z41, hc42, hf⟩ := bd2_e hf
          refine z_V (n := 1) (As := [.int r32]) (rest := []) (ci := 8) (q0 := 0) X hK hN (kX8_find l D K g z0 y0 _ r32 r40 z41 hc42) (bw_V W31_16 W31_17 W31_18 W1_2 W31_19) rfl ⟨rfl, rfl⟩ (by decide +kernel) rfl ⟨Nat.le_of_ble_eq_true rfl, Nat.le_of_ble_eq_true rfl⟩ hP hD rfl rfl (zj_same hD hS hA) hS hl.1 rfl (Nat.le_of_ble_eq_true rfl) dX8_put_38 ⟨Nat.zero_le _, Nat.zero_le _⟩ rfl (fun H locs hP hD hS => ?_)
          obtain ⟨rfl, rfl⟩ := z_inj2 hf
          exact z_iret X hr hlk hP hD hS dX8_put_41
      have hf := ite_f hf c31
      by_cases c43 : x1 = 3
      · have hf := ite_t hf c43
        refine z_aald X hK hP 2 3 rfl rfl (by rw [c43]; exact vp_lit _ _ (by decide)) (by rw [c43] <;> rfl) dX8_put_22 ?_
        refine lv_iload_n X.1 X.2.1 dX8_put_23 rfl (lv_at hl 2 rfl) ?_
        refine lv_iload_n X.1 X.2.1 dX8_put_24 rfl (lv_at hl 3 rfl) ?_
        obtain ⟨r44, hc45, hf⟩ := bd1_e hf
        have hp46 : List.Perm (wbALL K g z0 y0) ((wbX5 K (g 7) (z0 7)) ++ ([0, 1, 2, 3, 4, 5, 6, 8, 9, 10, 11, 12, 13, 14].map (bfALL K g z0 y0)).flatten) := wbALL_perm [7, 0, 1, 2, 3, 4, 5, 6, 8, 9, 10, 11, 12, 13, 14] (by decide)
        refine z_V (n := 2) (As := [.int x2, .int x3]) (rest := []) (ci := 5) (q0 := 0) X hK hN (kX5_refuses l D K (g 7) (z0 7) _ x2 x3 r44 hc45) (bw_V W39_17 W39_18 W39_19 W2_22 W39_20) rfl ⟨rfl, rfl⟩ (by decide +kernel) rfl ⟨Nat.le_of_ble_eq_true rfl, Nat.le_of_ble_eq_true rfl⟩ (hP.perm hp46).lef (hD.perm hp46).lef rfl rfl (zj_perm (ws' := wbALL K g z0 y0) hP hD hS hA hp46 (by refine List.Perm.symm ?_; exact wbALL_perm [7, 0, 1, 2, 3, 4, 5, 6, 8, 9, 10, 11, 12, 13, 14] (by decide))) hS hl.1 rfl (Nat.le_of_ble_eq_true rfl) dX8_put_25 ⟨Nat.zero_le _, Nat.zero_le _⟩ rfl (fun H locs hP hD hS => ?_)
        refine lv_istore (lv' := [(5, .int r44), (0, .ref (g 0 0)), (1, .int x1), (2, .int x2), (3, .int x3), (4, .int x4)]) X.1 X.2.1 dX8_put_28 hl (by decide) rfl (fun ls hl => ?_)
        refine lv_iload X.1 X.2.1 dX8_put_30 (lv_at hl 0 rfl) ?_
        refine lv_if_eq (tgt := 42) X.1 X.2.1 dX8_put_32 (by decide) (fun c47 => ?_) (fun c47 => ?_)
        · have hf := ite_t hf c47
          refine lv_aload_n X.1 X.2.1 dX8_put_42 rfl (lv_at hl 1 rfl) ?_
          refine z_get X hK hP hiX8 0 rfl rfl 1 (by decide) (bw_in W1_15) rfl dX8_put_43 ?_
          refine lv_iload_n X.1 X.2.1 dX8_put_46 rfl (lv_at hl 2 rfl) ?_
          refine z_aald X hK hP 2 3 rfl rfl (by rw [c43]; exact vp_lit _ _ (by decide)) (by rw [c43] <;> rfl) dX8_put_47 ?_
          refine lv_iload_n X.1 X.2.1 dX8_put_48 rfl (lv_at hl 4 rfl) ?_
          refine lv_iload X.1 X.2.1 dX8_put_49 (lv_at hl 5 rfl) ?_
          obtain ⟨e48, hc49, hf⟩ := bd1_e hf
          obtain ⟨z50, ez50, hf⟩ := stp_e hf
          have hp51 : List.Perm (wbALL K g z0 y0) ((wbX5 K (g 7) (z0 7)) ++ ([0, 1, 2, 3, 4, 5, 6, 8, 9, 10, 11, 12, 13, 14].map (bfALL K g z0 y0)).flatten) := wbALL_perm [7, 0, 1, 2, 3, 4, 5, 6, 8, 9, 10, 11, 12, 13, 14] (by decide)
          refine z_V (n := 2) (As := [.int x3, .int x4]) (rest := []) (ci := 5) (q0 := 0) X hK hN (kX5_store l D K (g 7) (z0 7) _ x3 x4 e48 hc49) (bw_V W39_21 W39_22 W39_23 W2_22 W40_0) rfl ⟨rfl, rfl⟩ (by decide +kernel) rfl ⟨Nat.le_of_ble_eq_true rfl, Nat.le_of_ble_eq_true rfl⟩ (hP.perm hp51).lef (hD.perm hp51).lef rfl rfl (zj_perm (ws' := wbALL K g z50 y0) hP hD hS hA hp51 (by rw [ez50]; refine List.Perm.symm ?_; exact wbALL_perm [7, 0, 1, 2, 3, 4, 5, 6, 8, 9, 10, 11, 12, 13, 14] (by decide))) hS hl.1 rfl (Nat.le_of_ble_eq_true rfl) dX8_put_51 ⟨Nat.zero_le _, Nat.zero_le _⟩ rfl (fun H locs hP hD hS => ?_)
          refine lv_iconst (v := 1) X.1 X.2.1 dX8_put_54 (by decide) ?_
          obtain ⟨rfl, rfl⟩ := z_inj2 hf
          exact z_iret X hr hlk hP hD hS dX8_put_55
        · have hf := ite_f hf c47
          refine lv_aload_n X.1 X.2.1 dX8_put_35 rfl (lv_at hl 1 rfl) ?_
          refine lv_iload X.1 X.2.1 dX8_put_36 (lv_at hl 0 rfl) ?_
          obtain ⟨r52, z53, hc54, hf⟩ := bd2_e hf
          refine z_V (n := 1) (As := [.int r44]) (rest := []) (ci := 8) (q0 := 0) X hK hN (kX8_find l D K g z0 y0 _ r44 r52 z53 hc54) (bw_V W31_16 W31_17 W31_18 W1_2 W31_19) rfl ⟨rfl, rfl⟩ (by decide +kernel) rfl ⟨Nat.le_of_ble_eq_true rfl, Nat.le_of_ble_eq_true rfl⟩ hP hD rfl rfl (zj_same hD hS hA) hS hl.1 rfl (Nat.le_of_ble_eq_true rfl) dX8_put_38 ⟨Nat.zero_le _, Nat.zero_le _⟩ rfl (fun H locs hP hD hS => ?_)
          obtain ⟨rfl, rfl⟩ := z_inj2 hf
          exact z_iret X hr hlk hP hD hS dX8_put_41
      have hf := ite_f hf c43
      cases hf
    · have hf := ite_f hf c6
      refine lv_bipush (v := -2) X.1 X.2.1 dX8_put_14 (by decide) ?_
      obtain ⟨rfl, rfl⟩ := z_inj2 hf
      exact z_iret X hr hlk hP hD hS dX8_put_16
abbrev rmX8_read : Room := { frames := 2, cells := 0, slots := 0, locals := 42 }
set_option maxHeartbeats 4000000 in
set_option maxRecDepth 100000 in
theorem kX8_read (l : Launch) (D : va_G) (K : Nat → ClassId) (g : Nat → Nat → Nat) (z0 : Nat → St) (y0 : Nat → Lt) (sz : Nat) (x1 : Int32) (q_ : Int32) (z_ : Nat → St) (hf : fX8_read z0 y0 x1 = some (q_, z_)) : Met l yX8_read (bw (Cond.code yX8_read cX8_read 7 (some .int))) rmX8_read (va_Pc [.ref (g 0 0), .int x1] (zB D K sz (wbALL K g z0 y0))) (zQ (some (.int q_)) D (va_A (wbALL K g z0 y0) sz) (wbALL K g z_ y0)) 0 0 (va_A (wbALL K g z0 y0) sz) := by
  refine z_of (cc := cX8_read) (maxL := 7) (ret := (some .int)) (own := RX8) (lv := [(0, .ref (g 0 0)), (1, .int x1)]) (by decide) rfl rfl (Nat.le_of_ble_eq_true rfl) rfl ?_
  intro p e s m below meth c X hr hlk hK hN hsz hP hD hA hS hin ls hl
  generalize va_A (wbALL K g z0 y0) sz = A at hD hA hS hN ⊢
  have hiX5 : ∀ w ∈ u_ws RX5 TX5 4, w ∈ (bw (Cond.code yX8_read cX8_read 7 (some .int))) := fun w h => bw_in (inlX5 w h)
  have hiX8 : ∀ w ∈ u_ws RX8 TX8 11, w ∈ (bw (Cond.code yX8_read cX8_read 7 (some .int))) := fun w h => bw_in (inlX8 w h)
  have L35_0 : ∀ (n : Nat), ∀ (n35_0 : Int32) (n35_1 : Int32) (q35_Z : Nat → St), fX8_read_35 y0 n n35_0 n35_1 q35_Z = some ((q_, z_)) → ∀ (H : Heap) (locs : List Loc), va_P D vwCl (wbALL K g q35_Z y0) H → va_D A (wbALL K g q35_Z y0) → va_S A s.heap H locs → ∀ (ls : Array Slot), lv_has ls 7 [(0, .ref (g 0 0)), (2, .ref (g 4 0)), (3, .int n35_0), (4, .int n35_1)] → W p l e rmX8_read s m ([.ref (g 0 0), .int x1] : List Value).toArray below meth c H locs 0 0 (MQ below (zQ (some (.int q_)) D A (wbALL K g z_ y0)) ([.ref (g 0 0), .int x1] : List Value).toArray s 0 0 A) (F0 m 35 ls []) := by
    intro n
    induction n with
    | zero =>
      intro n35_0 n35_1 q35_Z hf
      rw [fX8_read_35] at hf
      cases hf
    | succ n ih =>
      intro n35_0 n35_1 q35_Z hf H locs hP hD hS ls hl
      rw [fX8_read_35] at hf
      refine lv_iload X.1 X.2.1 dX8_read_35 (lv_at hl 3 rfl) ?_
      refine lv_iconst (v := 1) X.1 X.2.1 dX8_read_37 (by decide) ?_
      refine lv_iadd X.1 X.2.1 dX8_read_38 ?_
      refine lv_aload_n X.1 X.2.1 dX8_read_39 rfl (lv_at hl 1 rfl) ?_
      refine z_get X hK hP hiX5 9 rfl rfl 2 (by decide) (bw_in W31_11) rfl dX8_read_40 ?_
      refine lv_icmp_ge (tgt := 106) X.1 X.2.1 dX8_read_43 (by decide) (fun c6 => ?_) (fun c6 => ?_)
      · have hf := ite_t hf c6
        refine lv_iload_n X.1 X.2.1 dX8_read_106 rfl (lv_at hl 2 rfl) ?_
        obtain ⟨rfl, rfl⟩ := z_inj2 hf
        exact z_iret X hr hlk hP hD hS dX8_read_107
      · have hf := ite_f hf c6
        refine lv_aload_n X.1 X.2.1 dX8_read_46 rfl (lv_at hl 1 rfl) ?_
        refine z_get X hK hP hiX5 9 rfl rfl 3 (by decide) (bw_in W31_12) rfl dX8_read_47 ?_
        refine lv_iload X.1 X.2.1 dX8_read_50 (lv_at hl 3 rfl) ?_
        obtain ⟨hi8, hf⟩ := chk_e hf
        obtain ⟨v7, ev7, hf⟩ := stp_e hf
        refine z_iald X hK hP 10 rfl hi8 ev7 dX8_read_52 ?_
        refine lv_istore (lv' := [(5, .int v7), (0, .ref (g 0 0)), (2, .ref (g 4 0)), (3, .int n35_0), (4, .int n35_1)]) X.1 X.2.1 dX8_read_53 hl (by decide) rfl (fun ls hl => ?_)
        refine lv_aload_n X.1 X.2.1 dX8_read_55 rfl (lv_at hl 2 rfl) ?_
        refine z_get X hK hP hiX5 9 rfl rfl 3 (by decide) (bw_in W31_12) rfl dX8_read_56 ?_
        refine lv_iload X.1 X.2.1 dX8_read_59 (lv_at hl 4 rfl) ?_
        refine lv_iconst (v := 1) X.1 X.2.1 dX8_read_61 (by decide) ?_
        refine lv_iadd X.1 X.2.1 dX8_read_62 ?_
        obtain ⟨hi10, hf⟩ := chk_e hf
        obtain ⟨v9, ev9, hf⟩ := stp_e hf
        refine z_iald X hK hP 10 rfl hi10 ev9 dX8_read_63 ?_
        refine lv_istore (lv' := [(6, .int v9), (5, .int v7), (0, .ref (g 0 0)), (2, .ref (g 4 0)), (3, .int n35_0), (4, .int n35_1)]) X.1 X.2.1 dX8_read_64 hl (by decide) rfl (fun ls hl => ?_)
        refine lv_aload_n X.1 X.2.1 dX8_read_66 rfl (lv_at hl 2 rfl) ?_
        refine z_get X hK hP hiX8 0 rfl rfl 7 (by decide) (bw_in W2_12) rfl dX8_read_67 ?_
        refine lv_iload X.1 X.2.1 dX8_read_70 (lv_at hl 1 rfl) ?_
        refine lv_iload X.1 X.2.1 dX8_read_72 (lv_at hl 0 rfl) ?_
        obtain ⟨r11, hc12, hf⟩ := bd1_e hf
        have hp13 : List.Perm (wbALL K g q35_Z y0) ((wbX6 K (g 13) (q35_Z 13)) ++ ([0, 1, 2, 3, 4, 5, 6, 7, 8, 9, 10, 11, 12, 14].map (bfALL K g q35_Z y0)).flatten) := wbALL_perm [13, 0, 1, 2, 3, 4, 5, 6, 7, 8, 9, 10, 11, 12, 14] (by decide)
        refine z_V (n := 2) (As := [.int v7, .int v9]) (rest := []) (ci := 6) (q0 := 0) X hK hN (kX6_allowed l D K (g 13) (q35_Z 13) _ v7 v9 r11 hc12) (bw_V W30_9 W30_10 W30_11 W2_11 W30_12) rfl ⟨rfl, rfl⟩ (by decide +kernel) rfl ⟨Nat.le_of_ble_eq_true rfl, Nat.le_of_ble_eq_true rfl⟩ (hP.perm hp13).lef (hD.perm hp13).lef rfl rfl (zj_perm (ws' := wbALL K g q35_Z y0) hP hD hS hA hp13 (by refine List.Perm.symm ?_; exact wbALL_perm [13, 0, 1, 2, 3, 4, 5, 6, 7, 8, 9, 10, 11, 12, 14] (by decide))) hS hl.1 rfl (Nat.le_of_ble_eq_true rfl) dX8_read_74 ⟨Nat.zero_le _, Nat.zero_le _⟩ rfl (fun H locs hP hD hS => ?_)
        refine lv_if_eq (tgt := 106) X.1 X.2.1 dX8_read_77 (by decide) (fun c14 => ?_) (fun c14 => ?_)
        · have hf := ite_t hf c14
          refine lv_iload_n X.1 X.2.1 dX8_read_106 rfl (lv_at hl 4 rfl) ?_
          obtain ⟨rfl, rfl⟩ := z_inj2 hf
          exact z_iret X hr hlk hP hD hS dX8_read_107
        · have hf := ite_f hf c14
          refine lv_aload_n X.1 X.2.1 dX8_read_80 rfl (lv_at hl 2 rfl) ?_
          refine z_get X hK hP hiX8 0 rfl rfl 7 (by decide) (bw_in W2_12) rfl dX8_read_81 ?_
          refine lv_iload X.1 X.2.1 dX8_read_84 (lv_at hl 1 rfl) ?_
          refine lv_iload X.1 X.2.1 dX8_read_86 (lv_at hl 0 rfl) ?_
          obtain ⟨r15, v16, hc17, hf⟩ := bd2_e hf
          obtain ⟨z18, ez18, hf⟩ := stp_e hf
          have hp19 : List.Perm (wbALL K g q35_Z y0) ((wbX6 K (g 13) (q35_Z 13)) ++ ([0, 1, 2, 3, 4, 5, 6, 7, 8, 9, 10, 11, 12, 14].map (bfALL K g q35_Z y0)).flatten) := wbALL_perm [13, 0, 1, 2, 3, 4, 5, 6, 7, 8, 9, 10, 11, 12, 14] (by decide)
          refine z_V (n := 2) (As := [.int v7, .int v9]) (rest := []) (ci := 6) (q0 := 0) X hK hN (kX6_add l D K (g 13) (q35_Z 13) _ v7 v9 r15 v16 hc17) (bw_V W30_13 W30_14 W30_15 W2_11 W30_16) rfl ⟨rfl, rfl⟩ (by decide +kernel) rfl ⟨Nat.le_of_ble_eq_true rfl, Nat.le_of_ble_eq_true rfl⟩ (hP.perm hp19).lef (hD.perm hp19).lef rfl rfl (zj_perm (ws' := wbALL K g z18 y0) hP hD hS hA hp19 (by rw [ez18]; refine List.Perm.symm ?_; exact wbALL_perm [13, 0, 1, 2, 3, 4, 5, 6, 7, 8, 9, 10, 11, 12, 14] (by decide))) hS hl.1 rfl (Nat.le_of_ble_eq_true rfl) dX8_read_88 ⟨Nat.zero_le _, Nat.zero_le _⟩ rfl (fun H locs hP hD hS => ?_)
          refine lv_if_ne (tgt := 97) X.1 X.2.1 dX8_read_91 (by decide) (fun c20 => ?_) (fun c20 => ?_)
          · have hf := ite_f hf c20
            obtain ⟨w21, ew21, hf⟩ := stp_e hf
            refine lv_iinc (v := w21) (lv' := [(3, .int w21), (6, .int v9), (5, .int v7), (0, .ref (g 0 0)), (2, .ref (g 4 0)), (4, .int n35_1)]) X.1 X.2.1 dX8_read_97 hl (k := 4) rfl (by rw [ew21]; rfl) (by decide) rfl (fun ls hl => ?_)
            obtain ⟨w22, ew22, hf⟩ := stp_e hf
            refine lv_iinc (v := w22) (lv' := [(4, .int w22), (3, .int w21), (6, .int v9), (5, .int v7), (0, .ref (g 0 0)), (2, .ref (g 4 0))]) X.1 X.2.1 dX8_read_100 hl (k := 5) rfl (by rw [ew22]; rfl) (by decide) rfl (fun ls hl => ?_)
            refine lv_goto (tgt := 35) X.1 X.2.1 dX8_read_103 (by decide) ?_
            exact ih _ _ _ hf _ _ hP hD hS _ (lv_sub hl [4, 5, 1, 0] rfl)
          · have hf := ite_t hf c20
            refine lv_goto (tgt := 106) X.1 X.2.1 dX8_read_94 (by decide) ?_
            refine lv_iload_n X.1 X.2.1 dX8_read_106 rfl (lv_at hl 4 rfl) ?_
            obtain ⟨rfl, rfl⟩ := z_inj2 hf
            exact z_iret X hr hlk hP hD hS dX8_read_107
  have L35_1 : ∀ (n : Nat), ∀ (n35_0 : Int32) (n35_1 : Int32) (q35_Z : Nat → St), fX8_read_35_1 y0 n n35_0 n35_1 q35_Z = some ((q_, z_)) → ∀ (H : Heap) (locs : List Loc), va_P D vwCl (wbALL K g q35_Z y0) H → va_D A (wbALL K g q35_Z y0) → va_S A s.heap H locs → ∀ (ls : Array Slot), lv_has ls 7 [(0, .ref (g 0 0)), (2, .ref (g 5 0)), (3, .int n35_0), (4, .int n35_1)] → W p l e rmX8_read s m ([.ref (g 0 0), .int x1] : List Value).toArray below meth c H locs 0 0 (MQ below (zQ (some (.int q_)) D A (wbALL K g z_ y0)) ([.ref (g 0 0), .int x1] : List Value).toArray s 0 0 A) (F0 m 35 ls []) := by
    intro n
    induction n with
    | zero =>
      intro n35_0 n35_1 q35_Z hf
      rw [fX8_read_35_1] at hf
      cases hf
    | succ n ih =>
      intro n35_0 n35_1 q35_Z hf H locs hP hD hS ls hl
      rw [fX8_read_35_1] at hf
      refine lv_iload X.1 X.2.1 dX8_read_35 (lv_at hl 3 rfl) ?_
      refine lv_iconst (v := 1) X.1 X.2.1 dX8_read_37 (by decide) ?_
      refine lv_iadd X.1 X.2.1 dX8_read_38 ?_
      refine lv_aload_n X.1 X.2.1 dX8_read_39 rfl (lv_at hl 1 rfl) ?_
      refine z_get X hK hP hiX5 11 rfl rfl 2 (by decide) (bw_in W31_11) rfl dX8_read_40 ?_
      refine lv_icmp_ge (tgt := 106) X.1 X.2.1 dX8_read_43 (by decide) (fun c28 => ?_) (fun c28 => ?_)
      · have hf := ite_t hf c28
        refine lv_iload_n X.1 X.2.1 dX8_read_106 rfl (lv_at hl 2 rfl) ?_
        obtain ⟨rfl, rfl⟩ := z_inj2 hf
        exact z_iret X hr hlk hP hD hS dX8_read_107
      · have hf := ite_f hf c28
        refine lv_aload_n X.1 X.2.1 dX8_read_46 rfl (lv_at hl 1 rfl) ?_
        refine z_get X hK hP hiX5 11 rfl rfl 3 (by decide) (bw_in W31_12) rfl dX8_read_47 ?_
        refine lv_iload X.1 X.2.1 dX8_read_50 (lv_at hl 3 rfl) ?_
        obtain ⟨hi30, hf⟩ := chk_e hf
        obtain ⟨v29, ev29, hf⟩ := stp_e hf
        refine z_iald X hK hP 12 rfl hi30 ev29 dX8_read_52 ?_
        refine lv_istore (lv' := [(5, .int v29), (0, .ref (g 0 0)), (2, .ref (g 5 0)), (3, .int n35_0), (4, .int n35_1)]) X.1 X.2.1 dX8_read_53 hl (by decide) rfl (fun ls hl => ?_)
        refine lv_aload_n X.1 X.2.1 dX8_read_55 rfl (lv_at hl 2 rfl) ?_
        refine z_get X hK hP hiX5 11 rfl rfl 3 (by decide) (bw_in W31_12) rfl dX8_read_56 ?_
        refine lv_iload X.1 X.2.1 dX8_read_59 (lv_at hl 4 rfl) ?_
        refine lv_iconst (v := 1) X.1 X.2.1 dX8_read_61 (by decide) ?_
        refine lv_iadd X.1 X.2.1 dX8_read_62 ?_
        obtain ⟨hi32, hf⟩ := chk_e hf
        obtain ⟨v31, ev31, hf⟩ := stp_e hf
        refine z_iald X hK hP 12 rfl hi32 ev31 dX8_read_63 ?_
        refine lv_istore (lv' := [(6, .int v31), (5, .int v29), (0, .ref (g 0 0)), (2, .ref (g 5 0)), (3, .int n35_0), (4, .int n35_1)]) X.1 X.2.1 dX8_read_64 hl (by decide) rfl (fun ls hl => ?_)
        refine lv_aload_n X.1 X.2.1 dX8_read_66 rfl (lv_at hl 2 rfl) ?_
        refine z_get X hK hP hiX8 0 rfl rfl 7 (by decide) (bw_in W2_12) rfl dX8_read_67 ?_
        refine lv_iload X.1 X.2.1 dX8_read_70 (lv_at hl 1 rfl) ?_
        refine lv_iload X.1 X.2.1 dX8_read_72 (lv_at hl 0 rfl) ?_
        obtain ⟨r33, hc34, hf⟩ := bd1_e hf
        have hp35 : List.Perm (wbALL K g q35_Z y0) ((wbX6 K (g 13) (q35_Z 13)) ++ ([0, 1, 2, 3, 4, 5, 6, 7, 8, 9, 10, 11, 12, 14].map (bfALL K g q35_Z y0)).flatten) := wbALL_perm [13, 0, 1, 2, 3, 4, 5, 6, 7, 8, 9, 10, 11, 12, 14] (by decide)
        refine z_V (n := 2) (As := [.int v29, .int v31]) (rest := []) (ci := 6) (q0 := 0) X hK hN (kX6_allowed l D K (g 13) (q35_Z 13) _ v29 v31 r33 hc34) (bw_V W30_9 W30_10 W30_11 W2_11 W30_12) rfl ⟨rfl, rfl⟩ (by decide +kernel) rfl ⟨Nat.le_of_ble_eq_true rfl, Nat.le_of_ble_eq_true rfl⟩ (hP.perm hp35).lef (hD.perm hp35).lef rfl rfl (zj_perm (ws' := wbALL K g q35_Z y0) hP hD hS hA hp35 (by refine List.Perm.symm ?_; exact wbALL_perm [13, 0, 1, 2, 3, 4, 5, 6, 7, 8, 9, 10, 11, 12, 14] (by decide))) hS hl.1 rfl (Nat.le_of_ble_eq_true rfl) dX8_read_74 ⟨Nat.zero_le _, Nat.zero_le _⟩ rfl (fun H locs hP hD hS => ?_)
        refine lv_if_eq (tgt := 106) X.1 X.2.1 dX8_read_77 (by decide) (fun c36 => ?_) (fun c36 => ?_)
        · have hf := ite_t hf c36
          refine lv_iload_n X.1 X.2.1 dX8_read_106 rfl (lv_at hl 4 rfl) ?_
          obtain ⟨rfl, rfl⟩ := z_inj2 hf
          exact z_iret X hr hlk hP hD hS dX8_read_107
        · have hf := ite_f hf c36
          refine lv_aload_n X.1 X.2.1 dX8_read_80 rfl (lv_at hl 2 rfl) ?_
          refine z_get X hK hP hiX8 0 rfl rfl 7 (by decide) (bw_in W2_12) rfl dX8_read_81 ?_
          refine lv_iload X.1 X.2.1 dX8_read_84 (lv_at hl 1 rfl) ?_
          refine lv_iload X.1 X.2.1 dX8_read_86 (lv_at hl 0 rfl) ?_
          obtain ⟨r37, v38, hc39, hf⟩ := bd2_e hf
          obtain ⟨z40, ez40, hf⟩ := stp_e hf
          have hp41 : List.Perm (wbALL K g q35_Z y0) ((wbX6 K (g 13) (q35_Z 13)) ++ ([0, 1, 2, 3, 4, 5, 6, 7, 8, 9, 10, 11, 12, 14].map (bfALL K g q35_Z y0)).flatten) := wbALL_perm [13, 0, 1, 2, 3, 4, 5, 6, 7, 8, 9, 10, 11, 12, 14] (by decide)
          refine z_V (n := 2) (As := [.int v29, .int v31]) (rest := []) (ci := 6) (q0 := 0) X hK hN (kX6_add l D K (g 13) (q35_Z 13) _ v29 v31 r37 v38 hc39) (bw_V W30_13 W30_14 W30_15 W2_11 W30_16) rfl ⟨rfl, rfl⟩ (by decide +kernel) rfl ⟨Nat.le_of_ble_eq_true rfl, Nat.le_of_ble_eq_true rfl⟩ (hP.perm hp41).lef (hD.perm hp41).lef rfl rfl (zj_perm (ws' := wbALL K g z40 y0) hP hD hS hA hp41 (by rw [ez40]; refine List.Perm.symm ?_; exact wbALL_perm [13, 0, 1, 2, 3, 4, 5, 6, 7, 8, 9, 10, 11, 12, 14] (by decide))) hS hl.1 rfl (Nat.le_of_ble_eq_true rfl) dX8_read_88 ⟨Nat.zero_le _, Nat.zero_le _⟩ rfl (fun H locs hP hD hS => ?_)
          refine lv_if_ne (tgt := 97) X.1 X.2.1 dX8_read_91 (by decide) (fun c42 => ?_) (fun c42 => ?_)
          · have hf := ite_f hf c42
            obtain ⟨w43, ew43, hf⟩ := stp_e hf
            refine lv_iinc (v := w43) (lv' := [(3, .int w43), (6, .int v31), (5, .int v29), (0, .ref (g 0 0)), (2, .ref (g 5 0)), (4, .int n35_1)]) X.1 X.2.1 dX8_read_97 hl (k := 4) rfl (by rw [ew43]; rfl) (by decide) rfl (fun ls hl => ?_)
            obtain ⟨w44, ew44, hf⟩ := stp_e hf
            refine lv_iinc (v := w44) (lv' := [(4, .int w44), (3, .int w43), (6, .int v31), (5, .int v29), (0, .ref (g 0 0)), (2, .ref (g 5 0))]) X.1 X.2.1 dX8_read_100 hl (k := 5) rfl (by rw [ew44]; rfl) (by decide) rfl (fun ls hl => ?_)
            refine lv_goto (tgt := 35) X.1 X.2.1 dX8_read_103 (by decide) ?_
            exact ih _ _ _ hf _ _ hP hD hS _ (lv_sub hl [4, 5, 1, 0] rfl)
          · have hf := ite_t hf c42
            refine lv_goto (tgt := 106) X.1 X.2.1 dX8_read_94 (by decide) ?_
            refine lv_iload_n X.1 X.2.1 dX8_read_106 rfl (lv_at hl 4 rfl) ?_
            obtain ⟨rfl, rfl⟩ := z_inj2 hf
            exact z_iret X hr hlk hP hD hS dX8_read_107
  have L35_2 : ∀ (n : Nat), ∀ (n35_0 : Int32) (n35_1 : Int32) (q35_Z : Nat → St), fX8_read_35_2 y0 n n35_0 n35_1 q35_Z = some ((q_, z_)) → ∀ (H : Heap) (locs : List Loc), va_P D vwCl (wbALL K g q35_Z y0) H → va_D A (wbALL K g q35_Z y0) → va_S A s.heap H locs → ∀ (ls : Array Slot), lv_has ls 7 [(0, .ref (g 0 0)), (2, .ref (g 6 0)), (3, .int n35_0), (4, .int n35_1)] → W p l e rmX8_read s m ([.ref (g 0 0), .int x1] : List Value).toArray below meth c H locs 0 0 (MQ below (zQ (some (.int q_)) D A (wbALL K g z_ y0)) ([.ref (g 0 0), .int x1] : List Value).toArray s 0 0 A) (F0 m 35 ls []) := by
    intro n
    induction n with
    | zero =>
      intro n35_0 n35_1 q35_Z hf
      rw [fX8_read_35_2] at hf
      cases hf
    | succ n ih =>
      intro n35_0 n35_1 q35_Z hf H locs hP hD hS ls hl
      rw [fX8_read_35_2] at hf
      refine lv_iload X.1 X.2.1 dX8_read_35 (lv_at hl 3 rfl) ?_
      refine lv_iconst (v := 1) X.1 X.2.1 dX8_read_37 (by decide) ?_
      refine lv_iadd X.1 X.2.1 dX8_read_38 ?_
      refine lv_aload_n X.1 X.2.1 dX8_read_39 rfl (lv_at hl 1 rfl) ?_
      refine z_get X hK hP hiX5 13 rfl rfl 2 (by decide) (bw_in W31_11) rfl dX8_read_40 ?_
      refine lv_icmp_ge (tgt := 106) X.1 X.2.1 dX8_read_43 (by decide) (fun c50 => ?_) (fun c50 => ?_)
      · have hf := ite_t hf c50
        refine lv_iload_n X.1 X.2.1 dX8_read_106 rfl (lv_at hl 2 rfl) ?_
        obtain ⟨rfl, rfl⟩ := z_inj2 hf
        exact z_iret X hr hlk hP hD hS dX8_read_107
      · have hf := ite_f hf c50
        refine lv_aload_n X.1 X.2.1 dX8_read_46 rfl (lv_at hl 1 rfl) ?_
        refine z_get X hK hP hiX5 13 rfl rfl 3 (by decide) (bw_in W31_12) rfl dX8_read_47 ?_
        refine lv_iload X.1 X.2.1 dX8_read_50 (lv_at hl 3 rfl) ?_
        obtain ⟨hi52, hf⟩ := chk_e hf
        obtain ⟨v51, ev51, hf⟩ := stp_e hf
        refine z_iald X hK hP 14 rfl hi52 ev51 dX8_read_52 ?_
        refine lv_istore (lv' := [(5, .int v51), (0, .ref (g 0 0)), (2, .ref (g 6 0)), (3, .int n35_0), (4, .int n35_1)]) X.1 X.2.1 dX8_read_53 hl (by decide) rfl (fun ls hl => ?_)
        refine lv_aload_n X.1 X.2.1 dX8_read_55 rfl (lv_at hl 2 rfl) ?_
        refine z_get X hK hP hiX5 13 rfl rfl 3 (by decide) (bw_in W31_12) rfl dX8_read_56 ?_
        refine lv_iload X.1 X.2.1 dX8_read_59 (lv_at hl 4 rfl) ?_
        refine lv_iconst (v := 1) X.1 X.2.1 dX8_read_61 (by decide) ?_
        refine lv_iadd X.1 X.2.1 dX8_read_62 ?_
        obtain ⟨hi54, hf⟩ := chk_e hf
        obtain ⟨v53, ev53, hf⟩ := stp_e hf
        refine z_iald X hK hP 14 rfl hi54 ev53 dX8_read_63 ?_
        refine lv_istore (lv' := [(6, .int v53), (5, .int v51), (0, .ref (g 0 0)), (2, .ref (g 6 0)), (3, .int n35_0), (4, .int n35_1)]) X.1 X.2.1 dX8_read_64 hl (by decide) rfl (fun ls hl => ?_)
        refine lv_aload_n X.1 X.2.1 dX8_read_66 rfl (lv_at hl 2 rfl) ?_
        refine z_get X hK hP hiX8 0 rfl rfl 7 (by decide) (bw_in W2_12) rfl dX8_read_67 ?_
        refine lv_iload X.1 X.2.1 dX8_read_70 (lv_at hl 1 rfl) ?_
        refine lv_iload X.1 X.2.1 dX8_read_72 (lv_at hl 0 rfl) ?_
        obtain ⟨r55, hc56, hf⟩ := bd1_e hf
        have hp57 : List.Perm (wbALL K g q35_Z y0) ((wbX6 K (g 13) (q35_Z 13)) ++ ([0, 1, 2, 3, 4, 5, 6, 7, 8, 9, 10, 11, 12, 14].map (bfALL K g q35_Z y0)).flatten) := wbALL_perm [13, 0, 1, 2, 3, 4, 5, 6, 7, 8, 9, 10, 11, 12, 14] (by decide)
        refine z_V (n := 2) (As := [.int v51, .int v53]) (rest := []) (ci := 6) (q0 := 0) X hK hN (kX6_allowed l D K (g 13) (q35_Z 13) _ v51 v53 r55 hc56) (bw_V W30_9 W30_10 W30_11 W2_11 W30_12) rfl ⟨rfl, rfl⟩ (by decide +kernel) rfl ⟨Nat.le_of_ble_eq_true rfl, Nat.le_of_ble_eq_true rfl⟩ (hP.perm hp57).lef (hD.perm hp57).lef rfl rfl (zj_perm (ws' := wbALL K g q35_Z y0) hP hD hS hA hp57 (by refine List.Perm.symm ?_; exact wbALL_perm [13, 0, 1, 2, 3, 4, 5, 6, 7, 8, 9, 10, 11, 12, 14] (by decide))) hS hl.1 rfl (Nat.le_of_ble_eq_true rfl) dX8_read_74 ⟨Nat.zero_le _, Nat.zero_le _⟩ rfl (fun H locs hP hD hS => ?_)
        refine lv_if_eq (tgt := 106) X.1 X.2.1 dX8_read_77 (by decide) (fun c58 => ?_) (fun c58 => ?_)
        · have hf := ite_t hf c58
          refine lv_iload_n X.1 X.2.1 dX8_read_106 rfl (lv_at hl 4 rfl) ?_
          obtain ⟨rfl, rfl⟩ := z_inj2 hf
          exact z_iret X hr hlk hP hD hS dX8_read_107
        · have hf := ite_f hf c58
          refine lv_aload_n X.1 X.2.1 dX8_read_80 rfl (lv_at hl 2 rfl) ?_
          refine z_get X hK hP hiX8 0 rfl rfl 7 (by decide) (bw_in W2_12) rfl dX8_read_81 ?_
          refine lv_iload X.1 X.2.1 dX8_read_84 (lv_at hl 1 rfl) ?_
          refine lv_iload X.1 X.2.1 dX8_read_86 (lv_at hl 0 rfl) ?_
          obtain ⟨r59, v60, hc61, hf⟩ := bd2_e hf
          obtain ⟨z62, ez62, hf⟩ := stp_e hf
          have hp63 : List.Perm (wbALL K g q35_Z y0) ((wbX6 K (g 13) (q35_Z 13)) ++ ([0, 1, 2, 3, 4, 5, 6, 7, 8, 9, 10, 11, 12, 14].map (bfALL K g q35_Z y0)).flatten) := wbALL_perm [13, 0, 1, 2, 3, 4, 5, 6, 7, 8, 9, 10, 11, 12, 14] (by decide)
          refine z_V (n := 2) (As := [.int v51, .int v53]) (rest := []) (ci := 6) (q0 := 0) X hK hN (kX6_add l D K (g 13) (q35_Z 13) _ v51 v53 r59 v60 hc61) (bw_V W30_13 W30_14 W30_15 W2_11 W30_16) rfl ⟨rfl, rfl⟩ (by decide +kernel) rfl ⟨Nat.le_of_ble_eq_true rfl, Nat.le_of_ble_eq_true rfl⟩ (hP.perm hp63).lef (hD.perm hp63).lef rfl rfl (zj_perm (ws' := wbALL K g z62 y0) hP hD hS hA hp63 (by rw [ez62]; refine List.Perm.symm ?_; exact wbALL_perm [13, 0, 1, 2, 3, 4, 5, 6, 7, 8, 9, 10, 11, 12, 14] (by decide))) hS hl.1 rfl (Nat.le_of_ble_eq_true rfl) dX8_read_88 ⟨Nat.zero_le _, Nat.zero_le _⟩ rfl (fun H locs hP hD hS => ?_)
          refine lv_if_ne (tgt := 97) X.1 X.2.1 dX8_read_91 (by decide) (fun c64 => ?_) (fun c64 => ?_)
          · have hf := ite_f hf c64
            obtain ⟨w65, ew65, hf⟩ := stp_e hf
            refine lv_iinc (v := w65) (lv' := [(3, .int w65), (6, .int v53), (5, .int v51), (0, .ref (g 0 0)), (2, .ref (g 6 0)), (4, .int n35_1)]) X.1 X.2.1 dX8_read_97 hl (k := 4) rfl (by rw [ew65]; rfl) (by decide) rfl (fun ls hl => ?_)
            obtain ⟨w66, ew66, hf⟩ := stp_e hf
            refine lv_iinc (v := w66) (lv' := [(4, .int w66), (3, .int w65), (6, .int v53), (5, .int v51), (0, .ref (g 0 0)), (2, .ref (g 6 0))]) X.1 X.2.1 dX8_read_100 hl (k := 5) rfl (by rw [ew66]; rfl) (by decide) rfl (fun ls hl => ?_)
            refine lv_goto (tgt := 35) X.1 X.2.1 dX8_read_103 (by decide) ?_
            exact ih _ _ _ hf _ _ hP hD hS _ (lv_sub hl [4, 5, 1, 0] rfl)
          · have hf := ite_t hf c64
            refine lv_goto (tgt := 106) X.1 X.2.1 dX8_read_94 (by decide) ?_
            refine lv_iload_n X.1 X.2.1 dX8_read_106 rfl (lv_at hl 4 rfl) ?_
            obtain ⟨rfl, rfl⟩ := z_inj2 hf
            exact z_iret X hr hlk hP hD hS dX8_read_107
  have L35_3 : ∀ (n : Nat), ∀ (n35_0 : Int32) (n35_1 : Int32) (q35_Z : Nat → St), fX8_read_35_3 y0 n n35_0 n35_1 q35_Z = some ((q_, z_)) → ∀ (H : Heap) (locs : List Loc), va_P D vwCl (wbALL K g q35_Z y0) H → va_D A (wbALL K g q35_Z y0) → va_S A s.heap H locs → ∀ (ls : Array Slot), lv_has ls 7 [(0, .ref (g 0 0)), (2, .ref (g 7 0)), (3, .int n35_0), (4, .int n35_1)] → W p l e rmX8_read s m ([.ref (g 0 0), .int x1] : List Value).toArray below meth c H locs 0 0 (MQ below (zQ (some (.int q_)) D A (wbALL K g z_ y0)) ([.ref (g 0 0), .int x1] : List Value).toArray s 0 0 A) (F0 m 35 ls []) := by
    intro n
    induction n with
    | zero =>
      intro n35_0 n35_1 q35_Z hf
      rw [fX8_read_35_3] at hf
      cases hf
    | succ n ih =>
      intro n35_0 n35_1 q35_Z hf H locs hP hD hS ls hl
      rw [fX8_read_35_3] at hf
      refine lv_iload X.1 X.2.1 dX8_read_35 (lv_at hl 3 rfl) ?_
      refine lv_iconst (v := 1) X.1 X.2.1 dX8_read_37 (by decide) ?_
      refine lv_iadd X.1 X.2.1 dX8_read_38 ?_
      refine lv_aload_n X.1 X.2.1 dX8_read_39 rfl (lv_at hl 1 rfl) ?_
      refine z_get X hK hP hiX5 15 rfl rfl 2 (by decide) (bw_in W31_11) rfl dX8_read_40 ?_
      refine lv_icmp_ge (tgt := 106) X.1 X.2.1 dX8_read_43 (by decide) (fun c72 => ?_) (fun c72 => ?_)
      · have hf := ite_t hf c72
        refine lv_iload_n X.1 X.2.1 dX8_read_106 rfl (lv_at hl 2 rfl) ?_
        obtain ⟨rfl, rfl⟩ := z_inj2 hf
        exact z_iret X hr hlk hP hD hS dX8_read_107
      · have hf := ite_f hf c72
        refine lv_aload_n X.1 X.2.1 dX8_read_46 rfl (lv_at hl 1 rfl) ?_
        refine z_get X hK hP hiX5 15 rfl rfl 3 (by decide) (bw_in W31_12) rfl dX8_read_47 ?_
        refine lv_iload X.1 X.2.1 dX8_read_50 (lv_at hl 3 rfl) ?_
        obtain ⟨hi74, hf⟩ := chk_e hf
        obtain ⟨v73, ev73, hf⟩ := stp_e hf
        refine z_iald X hK hP 16 rfl hi74 ev73 dX8_read_52 ?_
        refine lv_istore (lv' := [(5, .int v73), (0, .ref (g 0 0)), (2, .ref (g 7 0)), (3, .int n35_0), (4, .int n35_1)]) X.1 X.2.1 dX8_read_53 hl (by decide) rfl (fun ls hl => ?_)
        refine lv_aload_n X.1 X.2.1 dX8_read_55 rfl (lv_at hl 2 rfl) ?_
        refine z_get X hK hP hiX5 15 rfl rfl 3 (by decide) (bw_in W31_12) rfl dX8_read_56 ?_
        refine lv_iload X.1 X.2.1 dX8_read_59 (lv_at hl 4 rfl) ?_
        refine lv_iconst (v := 1) X.1 X.2.1 dX8_read_61 (by decide) ?_
        refine lv_iadd X.1 X.2.1 dX8_read_62 ?_
        obtain ⟨hi76, hf⟩ := chk_e hf
        obtain ⟨v75, ev75, hf⟩ := stp_e hf
        refine z_iald X hK hP 16 rfl hi76 ev75 dX8_read_63 ?_
        refine lv_istore (lv' := [(6, .int v75), (5, .int v73), (0, .ref (g 0 0)), (2, .ref (g 7 0)), (3, .int n35_0), (4, .int n35_1)]) X.1 X.2.1 dX8_read_64 hl (by decide) rfl (fun ls hl => ?_)
        refine lv_aload_n X.1 X.2.1 dX8_read_66 rfl (lv_at hl 2 rfl) ?_
        refine z_get X hK hP hiX8 0 rfl rfl 7 (by decide) (bw_in W2_12) rfl dX8_read_67 ?_
        refine lv_iload X.1 X.2.1 dX8_read_70 (lv_at hl 1 rfl) ?_
        refine lv_iload X.1 X.2.1 dX8_read_72 (lv_at hl 0 rfl) ?_
        obtain ⟨r77, hc78, hf⟩ := bd1_e hf
        have hp79 : List.Perm (wbALL K g q35_Z y0) ((wbX6 K (g 13) (q35_Z 13)) ++ ([0, 1, 2, 3, 4, 5, 6, 7, 8, 9, 10, 11, 12, 14].map (bfALL K g q35_Z y0)).flatten) := wbALL_perm [13, 0, 1, 2, 3, 4, 5, 6, 7, 8, 9, 10, 11, 12, 14] (by decide)
        refine z_V (n := 2) (As := [.int v73, .int v75]) (rest := []) (ci := 6) (q0 := 0) X hK hN (kX6_allowed l D K (g 13) (q35_Z 13) _ v73 v75 r77 hc78) (bw_V W30_9 W30_10 W30_11 W2_11 W30_12) rfl ⟨rfl, rfl⟩ (by decide +kernel) rfl ⟨Nat.le_of_ble_eq_true rfl, Nat.le_of_ble_eq_true rfl⟩ (hP.perm hp79).lef (hD.perm hp79).lef rfl rfl (zj_perm (ws' := wbALL K g q35_Z y0) hP hD hS hA hp79 (by refine List.Perm.symm ?_; exact wbALL_perm [13, 0, 1, 2, 3, 4, 5, 6, 7, 8, 9, 10, 11, 12, 14] (by decide))) hS hl.1 rfl (Nat.le_of_ble_eq_true rfl) dX8_read_74 ⟨Nat.zero_le _, Nat.zero_le _⟩ rfl (fun H locs hP hD hS => ?_)
        refine lv_if_eq (tgt := 106) X.1 X.2.1 dX8_read_77 (by decide) (fun c80 => ?_) (fun c80 => ?_)
        · have hf := ite_t hf c80
          refine lv_iload_n X.1 X.2.1 dX8_read_106 rfl (lv_at hl 4 rfl) ?_
          obtain ⟨rfl, rfl⟩ := z_inj2 hf
          exact z_iret X hr hlk hP hD hS dX8_read_107
        · have hf := ite_f hf c80
          refine lv_aload_n X.1 X.2.1 dX8_read_80 rfl (lv_at hl 2 rfl) ?_
          refine z_get X hK hP hiX8 0 rfl rfl 7 (by decide) (bw_in W2_12) rfl dX8_read_81 ?_
          refine lv_iload X.1 X.2.1 dX8_read_84 (lv_at hl 1 rfl) ?_
          refine lv_iload X.1 X.2.1 dX8_read_86 (lv_at hl 0 rfl) ?_
          obtain ⟨r81, v82, hc83, hf⟩ := bd2_e hf
          obtain ⟨z84, ez84, hf⟩ := stp_e hf
          have hp85 : List.Perm (wbALL K g q35_Z y0) ((wbX6 K (g 13) (q35_Z 13)) ++ ([0, 1, 2, 3, 4, 5, 6, 7, 8, 9, 10, 11, 12, 14].map (bfALL K g q35_Z y0)).flatten) := wbALL_perm [13, 0, 1, 2, 3, 4, 5, 6, 7, 8, 9, 10, 11, 12, 14] (by decide)
          refine z_V (n := 2) (As := [.int v73, .int v75]) (rest := []) (ci := 6) (q0 := 0) X hK hN (kX6_add l D K (g 13) (q35_Z 13) _ v73 v75 r81 v82 hc83) (bw_V W30_13 W30_14 W30_15 W2_11 W30_16) rfl ⟨rfl, rfl⟩ (by decide +kernel) rfl ⟨Nat.le_of_ble_eq_true rfl, Nat.le_of_ble_eq_true rfl⟩ (hP.perm hp85).lef (hD.perm hp85).lef rfl rfl (zj_perm (ws' := wbALL K g z84 y0) hP hD hS hA hp85 (by rw [ez84]; refine List.Perm.symm ?_; exact wbALL_perm [13, 0, 1, 2, 3, 4, 5, 6, 7, 8, 9, 10, 11, 12, 14] (by decide))) hS hl.1 rfl (Nat.le_of_ble_eq_true rfl) dX8_read_88 ⟨Nat.zero_le _, Nat.zero_le _⟩ rfl (fun H locs hP hD hS => ?_)
          refine lv_if_ne (tgt := 97) X.1 X.2.1 dX8_read_91 (by decide) (fun c86 => ?_) (fun c86 => ?_)
          · have hf := ite_f hf c86
            obtain ⟨w87, ew87, hf⟩ := stp_e hf
            refine lv_iinc (v := w87) (lv' := [(3, .int w87), (6, .int v75), (5, .int v73), (0, .ref (g 0 0)), (2, .ref (g 7 0)), (4, .int n35_1)]) X.1 X.2.1 dX8_read_97 hl (k := 4) rfl (by rw [ew87]; rfl) (by decide) rfl (fun ls hl => ?_)
            obtain ⟨w88, ew88, hf⟩ := stp_e hf
            refine lv_iinc (v := w88) (lv' := [(4, .int w88), (3, .int w87), (6, .int v75), (5, .int v73), (0, .ref (g 0 0)), (2, .ref (g 7 0))]) X.1 X.2.1 dX8_read_100 hl (k := 5) rfl (by rw [ew88]; rfl) (by decide) rfl (fun ls hl => ?_)
            refine lv_goto (tgt := 35) X.1 X.2.1 dX8_read_103 (by decide) ?_
            exact ih _ _ _ hf _ _ hP hD hS _ (lv_sub hl [4, 5, 1, 0] rfl)
          · have hf := ite_t hf c86
            refine lv_goto (tgt := 106) X.1 X.2.1 dX8_read_94 (by decide) ?_
            refine lv_iload_n X.1 X.2.1 dX8_read_106 rfl (lv_at hl 4 rfl) ?_
            obtain ⟨rfl, rfl⟩ := z_inj2 hf
            exact z_iret X hr hlk hP hD hS dX8_read_107
  rw [fX8_read] at hf
  refine lv_iload_n X.1 X.2.1 dX8_read_0 rfl (lv_at hl 1 rfl) ?_
  obtain ⟨r1, hc2, hf⟩ := bd1_e hf
  refine z_S (n := 1) (As := [.int x1]) (rest := []) X hK hN (kX8_noSuchSheet l D K _ x1 r1 hc2) (bw_S W31_13 W31_14 W1_2 W31_15) rfl ⟨rfl, rfl⟩ (by decide +kernel) rfl ⟨Nat.le_of_ble_eq_true rfl, Nat.le_of_ble_eq_true rfl⟩ (fun _ _ h => by simp at h) ⟨fun _ _ _ _ h => by simp at h, fun _ _ h => by simp at h⟩ (zj_none hP hD hS hA) hS hl.1 rfl (Nat.le_of_ble_eq_true rfl) dX8_read_1 ⟨Nat.zero_le _, Nat.zero_le _⟩ rfl (fun H locs hP hD hS => ?_)
  refine lv_if_eq (tgt := 10) X.1 X.2.1 dX8_read_4 (by decide) (fun c3 => ?_) (fun c3 => ?_)
  · have hf := ite_t hf c3
    refine lv_aload_n X.1 X.2.1 dX8_read_10 rfl (lv_at hl 0 rfl) ?_
    refine z_get X hK hP hiX8 0 rfl rfl 1 (by decide) (bw_in W1_15) rfl dX8_read_11 ?_
    refine lv_iload_n X.1 X.2.1 dX8_read_14 rfl (lv_at hl 1 rfl) ?_
    by_cases c4 : x1 = 0
    · have hf := ite_t hf c4
      refine z_aald X hK hP 2 3 rfl rfl (by rw [c4]; exact vp_lit _ _ (by decide)) (by rw [c4] <;> rfl) dX8_read_15 ?_
      refine lv_astore_n (lv' := [(2, .ref (g 4 0)), (0, .ref (g 0 0)), (1, .int x1)]) X.1 X.2.1 dX8_read_16 rfl hl (by decide) rfl (fun ls hl => ?_)
      refine lv_aload_n X.1 X.2.1 dX8_read_17 rfl (lv_at hl 0 rfl) ?_
      refine z_get X hK hP hiX5 9 rfl rfl 0 (by decide) (bw_in W31_10) rfl dX8_read_18 ?_
      refine lv_if_eq (tgt := 30) X.1 X.2.1 dX8_read_21 (by decide) (fun c5 => ?_) (fun c5 => ?_)
      · have hf := ite_t hf c5
        refine lv_iconst (v := 0) X.1 X.2.1 dX8_read_30 (by decide) ?_
        refine lv_istore_n (lv' := [(3, .int 0), (2, .ref (g 4 0)), (0, .ref (g 0 0)), (1, .int x1)]) X.1 X.2.1 dX8_read_31 rfl hl (by decide) rfl (fun ls hl => ?_)
        refine lv_iconst (v := 0) X.1 X.2.1 dX8_read_32 (by decide) ?_
        refine lv_istore (lv' := [(4, .int 0), (3, .int 0), (2, .ref (g 4 0)), (0, .ref (g 0 0)), (1, .int x1)]) X.1 X.2.1 dX8_read_33 hl (by decide) rfl (fun ls hl => ?_)
        exact L35_0  _ _ _ _ hf _ _ hP hD hS _ (lv_sub hl [3, 2, 1, 0] rfl)
      · have hf := ite_f hf c5
        refine lv_aload_n X.1 X.2.1 dX8_read_24 rfl (lv_at hl 1 rfl) ?_
        refine lv_iconst (v := 1) X.1 X.2.1 dX8_read_25 (by decide) ?_
        obtain ⟨r23, z24, hc25, hf⟩ := bd2_e hf
        refine z_V (n := 1) (As := [.int 1]) (rest := []) (ci := 8) (q0 := 0) X hK hN (kX8_find l D K g z0 y0 _ 1 r23 z24 hc25) (bw_V W31_16 W31_17 W31_18 W1_2 W31_19) rfl ⟨rfl, rfl⟩ (by decide +kernel) rfl ⟨Nat.le_of_ble_eq_true rfl, Nat.le_of_ble_eq_true rfl⟩ hP hD rfl rfl (zj_same hD hS hA) hS hl.1 rfl (Nat.le_of_ble_eq_true rfl) dX8_read_26 ⟨Nat.zero_le _, Nat.zero_le _⟩ rfl (fun H locs hP hD hS => ?_)
        obtain ⟨rfl, rfl⟩ := z_inj2 hf
        exact z_iret X hr hlk hP hD hS dX8_read_29
    have hf := ite_f hf c4
    by_cases c26 : x1 = 1
    · have hf := ite_t hf c26
      refine z_aald X hK hP 2 3 rfl rfl (by rw [c26]; exact vp_lit _ _ (by decide)) (by rw [c26] <;> rfl) dX8_read_15 ?_
      refine lv_astore_n (lv' := [(2, .ref (g 5 0)), (0, .ref (g 0 0)), (1, .int x1)]) X.1 X.2.1 dX8_read_16 rfl hl (by decide) rfl (fun ls hl => ?_)
      refine lv_aload_n X.1 X.2.1 dX8_read_17 rfl (lv_at hl 0 rfl) ?_
      refine z_get X hK hP hiX5 11 rfl rfl 0 (by decide) (bw_in W31_10) rfl dX8_read_18 ?_
      refine lv_if_eq (tgt := 30) X.1 X.2.1 dX8_read_21 (by decide) (fun c27 => ?_) (fun c27 => ?_)
      · have hf := ite_t hf c27
        refine lv_iconst (v := 0) X.1 X.2.1 dX8_read_30 (by decide) ?_
        refine lv_istore_n (lv' := [(3, .int 0), (2, .ref (g 5 0)), (0, .ref (g 0 0)), (1, .int x1)]) X.1 X.2.1 dX8_read_31 rfl hl (by decide) rfl (fun ls hl => ?_)
        refine lv_iconst (v := 0) X.1 X.2.1 dX8_read_32 (by decide) ?_
        refine lv_istore (lv' := [(4, .int 0), (3, .int 0), (2, .ref (g 5 0)), (0, .ref (g 0 0)), (1, .int x1)]) X.1 X.2.1 dX8_read_33 hl (by decide) rfl (fun ls hl => ?_)
        exact L35_1  _ _ _ _ hf _ _ hP hD hS _ (lv_sub hl [3, 2, 1, 0] rfl)
      · have hf := ite_f hf c27
        refine lv_aload_n X.1 X.2.1 dX8_read_24 rfl (lv_at hl 1 rfl) ?_
        refine lv_iconst (v := 1) X.1 X.2.1 dX8_read_25 (by decide) ?_
        obtain ⟨r45, z46, hc47, hf⟩ := bd2_e hf
        refine z_V (n := 1) (As := [.int 1]) (rest := []) (ci := 8) (q0 := 0) X hK hN (kX8_find l D K g z0 y0 _ 1 r45 z46 hc47) (bw_V W31_16 W31_17 W31_18 W1_2 W31_19) rfl ⟨rfl, rfl⟩ (by decide +kernel) rfl ⟨Nat.le_of_ble_eq_true rfl, Nat.le_of_ble_eq_true rfl⟩ hP hD rfl rfl (zj_same hD hS hA) hS hl.1 rfl (Nat.le_of_ble_eq_true rfl) dX8_read_26 ⟨Nat.zero_le _, Nat.zero_le _⟩ rfl (fun H locs hP hD hS => ?_)
        obtain ⟨rfl, rfl⟩ := z_inj2 hf
        exact z_iret X hr hlk hP hD hS dX8_read_29
    have hf := ite_f hf c26
    by_cases c48 : x1 = 2
    · have hf := ite_t hf c48
      refine z_aald X hK hP 2 3 rfl rfl (by rw [c48]; exact vp_lit _ _ (by decide)) (by rw [c48] <;> rfl) dX8_read_15 ?_
      refine lv_astore_n (lv' := [(2, .ref (g 6 0)), (0, .ref (g 0 0)), (1, .int x1)]) X.1 X.2.1 dX8_read_16 rfl hl (by decide) rfl (fun ls hl => ?_)
      refine lv_aload_n X.1 X.2.1 dX8_read_17 rfl (lv_at hl 0 rfl) ?_
      refine z_get X hK hP hiX5 13 rfl rfl 0 (by decide) (bw_in W31_10) rfl dX8_read_18 ?_
      refine lv_if_eq (tgt := 30) X.1 X.2.1 dX8_read_21 (by decide) (fun c49 => ?_) (fun c49 => ?_)
      · have hf := ite_t hf c49
        refine lv_iconst (v := 0) X.1 X.2.1 dX8_read_30 (by decide) ?_
        refine lv_istore_n (lv' := [(3, .int 0), (2, .ref (g 6 0)), (0, .ref (g 0 0)), (1, .int x1)]) X.1 X.2.1 dX8_read_31 rfl hl (by decide) rfl (fun ls hl => ?_)
        refine lv_iconst (v := 0) X.1 X.2.1 dX8_read_32 (by decide) ?_
        refine lv_istore (lv' := [(4, .int 0), (3, .int 0), (2, .ref (g 6 0)), (0, .ref (g 0 0)), (1, .int x1)]) X.1 X.2.1 dX8_read_33 hl (by decide) rfl (fun ls hl => ?_)
        exact L35_2  _ _ _ _ hf _ _ hP hD hS _ (lv_sub hl [3, 2, 1, 0] rfl)
      · have hf := ite_f hf c49
        refine lv_aload_n X.1 X.2.1 dX8_read_24 rfl (lv_at hl 1 rfl) ?_
        refine lv_iconst (v := 1) X.1 X.2.1 dX8_read_25 (by decide) ?_
        obtain ⟨r67, z68, hc69, hf⟩ := bd2_e hf
        refine z_V (n := 1) (As := [.int 1]) (rest := []) (ci := 8) (q0 := 0) X hK hN (kX8_find l D K g z0 y0 _ 1 r67 z68 hc69) (bw_V W31_16 W31_17 W31_18 W1_2 W31_19) rfl ⟨rfl, rfl⟩ (by decide +kernel) rfl ⟨Nat.le_of_ble_eq_true rfl, Nat.le_of_ble_eq_true rfl⟩ hP hD rfl rfl (zj_same hD hS hA) hS hl.1 rfl (Nat.le_of_ble_eq_true rfl) dX8_read_26 ⟨Nat.zero_le _, Nat.zero_le _⟩ rfl (fun H locs hP hD hS => ?_)
        obtain ⟨rfl, rfl⟩ := z_inj2 hf
        exact z_iret X hr hlk hP hD hS dX8_read_29
    have hf := ite_f hf c48
    by_cases c70 : x1 = 3
    · have hf := ite_t hf c70
      refine z_aald X hK hP 2 3 rfl rfl (by rw [c70]; exact vp_lit _ _ (by decide)) (by rw [c70] <;> rfl) dX8_read_15 ?_
      refine lv_astore_n (lv' := [(2, .ref (g 7 0)), (0, .ref (g 0 0)), (1, .int x1)]) X.1 X.2.1 dX8_read_16 rfl hl (by decide) rfl (fun ls hl => ?_)
      refine lv_aload_n X.1 X.2.1 dX8_read_17 rfl (lv_at hl 0 rfl) ?_
      refine z_get X hK hP hiX5 15 rfl rfl 0 (by decide) (bw_in W31_10) rfl dX8_read_18 ?_
      refine lv_if_eq (tgt := 30) X.1 X.2.1 dX8_read_21 (by decide) (fun c71 => ?_) (fun c71 => ?_)
      · have hf := ite_t hf c71
        refine lv_iconst (v := 0) X.1 X.2.1 dX8_read_30 (by decide) ?_
        refine lv_istore_n (lv' := [(3, .int 0), (2, .ref (g 7 0)), (0, .ref (g 0 0)), (1, .int x1)]) X.1 X.2.1 dX8_read_31 rfl hl (by decide) rfl (fun ls hl => ?_)
        refine lv_iconst (v := 0) X.1 X.2.1 dX8_read_32 (by decide) ?_
        refine lv_istore (lv' := [(4, .int 0), (3, .int 0), (2, .ref (g 7 0)), (0, .ref (g 0 0)), (1, .int x1)]) X.1 X.2.1 dX8_read_33 hl (by decide) rfl (fun ls hl => ?_)
        exact L35_3  _ _ _ _ hf _ _ hP hD hS _ (lv_sub hl [3, 2, 1, 0] rfl)
      · have hf := ite_f hf c71
        refine lv_aload_n X.1 X.2.1 dX8_read_24 rfl (lv_at hl 1 rfl) ?_
        refine lv_iconst (v := 1) X.1 X.2.1 dX8_read_25 (by decide) ?_
        obtain ⟨r89, z90, hc91, hf⟩ := bd2_e hf
        refine z_V (n := 1) (As := [.int 1]) (rest := []) (ci := 8) (q0 := 0) X hK hN (kX8_find l D K g z0 y0 _ 1 r89 z90 hc91) (bw_V W31_16 W31_17 W31_18 W1_2 W31_19) rfl ⟨rfl, rfl⟩ (by decide +kernel) rfl ⟨Nat.le_of_ble_eq_true rfl, Nat.le_of_ble_eq_true rfl⟩ hP hD rfl rfl (zj_same hD hS hA) hS hl.1 rfl (Nat.le_of_ble_eq_true rfl) dX8_read_26 ⟨Nat.zero_le _, Nat.zero_le _⟩ rfl (fun H locs hP hD hS => ?_)
        obtain ⟨rfl, rfl⟩ := z_inj2 hf
        exact z_iret X hr hlk hP hD hS dX8_read_29
    have hf := ite_f hf c70
    cases hf
  · have hf := ite_f hf c3
    refine lv_bipush (v := -2) X.1 X.2.1 dX8_read_7 (by decide) ?_
    obtain ⟨rfl, rfl⟩ := z_inj2 hf
    exact z_iret X hr hlk hP hD hS dX8_read_9
