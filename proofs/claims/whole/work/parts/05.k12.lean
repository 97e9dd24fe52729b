abbrev rmX8_seen : Room := { frames := 2, cells := 0, slots := 0, locals := 42 }
set_option maxHeartbeats 4000000 in
set_option maxRecDepth 100000 in
theorem kX8_seen (l : Launch) (D : va_G) (K : Nat → ClassId) (g : Nat → Nat → Nat) (z0 : Nat → St) (y0 : Nat → Lt) (sz : Nat) (x1 : Int32) (x2 : Int32) (q_ : Int32) (z_ : Nat → St) (hf : fX8_seen z0 y0 x1 x2 = some (q_, z_)) : Met l yX8_seen (bw (Cond.code yX8_seen cX8_seen 3 (some .int))) rmX8_seen (va_Pc [.ref (g 0 0), .int x1, .int x2] (zB D K sz (wbALL K g z0 y0))) (zQ (some (.int q_)) D (va_A (wbALL K g z0 y0) sz) (wbALL K g z_ y0)) 0 0 (va_A (wbALL K g z0 y0) sz) := by
  refine z_of (cc := cX8_seen) (maxL := 3) (ret := (some .int)) (own := RX8) (lv := [(0, .ref (g 0 0)), (1, .int x1), (2, .int x2)]) (by decide) rfl rfl (Nat.le_of_ble_eq_true rfl) rfl ?_
  intro p e s m below meth c X hr hlk hK hN hsz hP hD hA hS hin ls hl
  generalize va_A (wbALL K g z0 y0) sz = A at hD hA hS hN ⊢
  have hiX6 : ∀ w ∈ u_ws RX6 TX6 3, w ∈ (bw (Cond.code yX8_seen cX8_seen 3 (some .int))) := fun w h => bw_in (inlX6 w h)
  have hiX8 : ∀ w ∈ u_ws RX8 TX8 11, w ∈ (bw (Cond.code yX8_seen cX8_seen 3 (some .int))) := fun w h => bw_in (inlX8 w h)
  rw [fX8_seen] at hf
  refine lv_aload_n X.1 X.2.1 dX8_seen_0 rfl (lv_at hl 0 rfl) ?_
  refine z_get X hK hP hiX8 0 rfl rfl 7 (by decide) (bw_in W2_12) rfl dX8_seen_1 ?_
  refine lv_iload_n X.1 X.2.1 dX8_seen_4 rfl (lv_at hl 1 rfl) ?_
  refine lv_iload_n X.1 X.2.1 dX8_seen_5 rfl (lv_at hl 2 rfl) ?_
  obtain ⟨r1, hc2, hf⟩ := bd1_e hf
  have hp3 : List.Perm (wbALL K g z0 y0) ((wbX6 K (g 13) (z0 13)) ++ ([0, 1, 2, 3, 4, 5, 6, 7, 8, 9, 10, 11, 12, 14].map (bfALL K g z0 y0)).flatten) := wbALL_perm [13, 0, 1, 2, 3, 4, 5, 6, 7, 8, 9, 10, 11, 12, 14] (by decide)
  refine z_V (n := 2) (As := [.int x1, .int x2]) (rest := []) (ci := 6) (q0 := 0) X hK hN (kX6_allowed l D K (g 13) (z0 13) _ x1 x2 r1 hc2) (bw_V W30_9 W30_10 W30_11 W2_11 W30_12) rfl ⟨rfl, rfl⟩ (by decide +kernel) rfl ⟨Nat.le_of_ble_eq_true rfl, Nat.le_of_ble_eq_true rfl⟩ (hP.perm hp3).lef (hD.perm hp3).lef rfl rfl (zj_perm (ws' := wbALL K g z0 y0) hP hD hS hA hp3 (by refine List.Perm.symm ?_; exact wbALL_perm [13, 0, 1, 2, 3, 4, 5, 6, 7, 8, 9, 10, 11, 12, 14] (by decide))) hS hl.1 rfl (Nat.le_of_ble_eq_true rfl) dX8_seen_6 ⟨Nat.zero_le _, Nat.zero_le _⟩ rfl (fun H locs hP hD hS => ?_)
  refine lv_if_ne (tgt := 15) X.1 X.2.1 dX8_seen_9 (by decide) (fun c4 => ?_) (fun c4 => ?_)
  · have hf := ite_f hf c4
    refine lv_aload_n X.1 X.2.1 dX8_seen_15 rfl (lv_at hl 0 rfl) ?_
    refine z_get X hK hP hiX8 0 rfl rfl 7 (by decide) (bw_in W2_12) rfl dX8_seen_16 ?_
    refine lv_iload_n X.1 X.2.1 dX8_seen_19 rfl (lv_at hl 1 rfl) ?_
    refine lv_iload_n X.1 X.2.1 dX8_seen_20 rfl (lv_at hl 2 rfl) ?_
    obtain ⟨r5, v6, hc7, hf⟩ := bd2_e hf
    obtain ⟨z8, ez8, hf⟩ := stp_e hf
    have hp9 : List.Perm (wbALL K g z0 y0) ((wbX6 K (g 13) (z0 13)) ++ ([0, 1, 2, 3, 4, 5, 6, 7, 8, 9, 10, 11, 12, 14].map (bfALL K g z0 y0)).flatten) := wbALL_perm [13, 0, 1, 2, 3, 4, 5, 6, 7, 8, 9, 10, 11, 12, 14] (by decide)
    refine z_V (n := 2) (As := [.int x1, .int x2]) (rest := []) (ci := 6) (q0 := 0) X hK hN (kX6_add l D K (g 13) (z0 13) _ x1 x2 r5 v6 hc7) (bw_V W30_13 W30_14 W30_15 W2_11 W30_16) rfl ⟨rfl, rfl⟩ (by decide +kernel) rfl ⟨Nat.le_of_ble_eq_true rfl, Nat.le_of_ble_eq_true rfl⟩ (hP.perm hp9).lef (hD.perm hp9).lef rfl rfl (zj_perm (ws' := wbALL K g z8 y0) hP hD hS hA hp9 (by rw [ez8]; refine List.Perm.symm ?_; exact wbALL_perm [13, 0, 1, 2, 3, 4, 5, 6, 7, 8, 9, 10, 11, 12, 14] (by decide))) hS hl.1 rfl (Nat.le_of_ble_eq_true rfl) dX8_seen_21 ⟨Nat.zero_le _, Nat.zero_le _⟩ rfl (fun H locs hP hD hS => ?_)
    refine lv_if_eq (tgt := 37) X.1 X.2.1 dX8_seen_24 (by decide) (fun c10 => ?_) (fun c10 => ?_)
    · have hf := ite_t hf c10
      refine lv_bipush (v := -4) X.1 X.2.1 dX8_seen_37 (by decide) ?_
      obtain ⟨rfl, rfl⟩ := z_inj2 hf
      exact z_iret X hr hlk hP hD hS dX8_seen_39
    · have hf := ite_f hf c10
      refine lv_aload_n X.1 X.2.1 dX8_seen_27 rfl (lv_at hl 0 rfl) ?_
      refine z_get X hK hP hiX8 0 rfl rfl 7 (by decide) (bw_in W2_12) rfl dX8_seen_28 ?_
      refine z_get X hK hP hiX6 52 rfl rfl 0 (by decide) (bw_in W30_8) rfl dX8_seen_31 ?_
      refine lv_goto (tgt := 39) X.1 X.2.1 dX8_seen_34 (by decide) ?_
      obtain ⟨rfl, rfl⟩ := z_inj2 hf
      exact z_iret X hr hlk hP hD hS dX8_seen_39
  · have hf := ite_t hf c4
    refine lv_bipush (v := -2) X.1 X.2.1 dX8_seen_12 (by decide) ?_
    obtain ⟨rfl, rfl⟩ := z_inj2 hf
    exact z_iret X hr hlk hP hD hS dX8_seen_14
abbrev rmX8_set : Room := { frames := 0, cells := 0, slots := 0, locals := 0 }
set_option maxHeartbeats 4000000 in
set_option maxRecDepth 100000 in
theorem kX8_set (l : Launch) (D : va_G) (K : Nat → ClassId) (g : Nat → Nat → Nat) (z0 : Nat → St) (y0 : Nat → Lt) (sz : Nat) (x1 : Int32) (x2 : Int32) (q_ : Int32) (z_ : Nat → St) (hf : fX8_set z0 y0 x1 x2 = some (q_, z_)) : Met l yX8_set (bw (Cond.code yX8_set cX8_set 4 (some .int))) rmX8_set (va_Pc [.ref (g 0 0), .int x1, .int x2] (zB D K sz (wbALL K g z0 y0))) (zQ (some (.int q_)) D (va_A (wbALL K g z0 y0) sz) (wbALL K g z_ y0)) 0 0 (va_A (wbALL K g z0 y0) sz) := by
  refine z_of (cc := cX8_set) (maxL := 4) (ret := (some .int)) (own := RX8) (lv := [(0, .ref (g 0 0)), (1, .int x1), (2, .int x2)]) (by decide) rfl rfl (Nat.le_of_ble_eq_true rfl) rfl ?_
  intro p e s m below meth c X hr hlk hK hN hsz hP hD hA hS hin ls hl
  generalize va_A (wbALL K g z0 y0) sz = A at hD hA hS hN ⊢
  have hiX2 : ∀ w ∈ u_ws RX2 TX2 14, w ∈ (bw (Cond.code yX8_set cX8_set 4 (some .int))) := fun w h => bw_in (inlX2 w h)
  have hiX8 : ∀ w ∈ u_ws RX8 TX8 11, w ∈ (bw (Cond.code yX8_set cX8_set 4 (some .int))) := fun w h => bw_in (inlX8 w h)
  rw [fX8_set] at hf
  refine lv_iload_n X.1 X.2.1 dX8_set_0 rfl (lv_at hl 1 rfl) ?_
  refine lv_if_ne (tgt := 33) X.1 X.2.1 dX8_set_1 (by decide) (fun c1 => ?_) (fun c1 => ?_)
  · have hf := ite_f hf c1
    refine lv_iload_n X.1 X.2.1 dX8_set_33 rfl (lv_at hl 1 rfl) ?_
    refine lv_iconst (v := 1) X.1 X.2.1 dX8_set_34 (by decide) ?_
    refine lv_icmp_ne (tgt := 68) X.1 X.2.1 dX8_set_35 (by decide) (fun c2 => ?_) (fun c2 => ?_)
    · have hf := ite_f hf c2
      refine lv_bipush (v := -2) X.1 X.2.1 dX8_set_68 (by decide) ?_
      obtain ⟨rfl, rfl⟩ := z_inj2 hf
      exact z_iret X hr hlk hP hD hS dX8_set_70
    · have hf := ite_t hf c2
      refine lv_iload_n X.1 X.2.1 dX8_set_38 rfl (lv_at hl 2 rfl) ?_
      refine lv_iconst (v := 1) X.1 X.2.1 dX8_set_39 (by decide) ?_
      refine lv_icmp_lt (tgt := 68) X.1 X.2.1 dX8_set_40 (by decide) (fun c3 => ?_) (fun c3 => ?_)
      · have hf := ite_t hf c3
        refine lv_bipush (v := -2) X.1 X.2.1 dX8_set_68 (by decide) ?_
        obtain ⟨rfl, rfl⟩ := z_inj2 hf
        exact z_iret X hr hlk hP hD hS dX8_set_70
      · have hf := ite_f hf c3
        refine lv_iload_n X.1 X.2.1 dX8_set_43 rfl (lv_at hl 2 rfl) ?_
        refine lv_bipush (v := 60) X.1 X.2.1 dX8_set_44 (by decide) ?_
        refine lv_icmp_gt (tgt := 68) X.1 X.2.1 dX8_set_46 (by decide) (fun c4 => ?_) (fun c4 => ?_)
        · have hf := ite_t hf c4
          refine lv_bipush (v := -2) X.1 X.2.1 dX8_set_68 (by decide) ?_
          obtain ⟨rfl, rfl⟩ := z_inj2 hf
          exact z_iret X hr hlk hP hD hS dX8_set_70
        · have hf := ite_f hf c4
          refine lv_aload_n X.1 X.2.1 dX8_set_49 rfl (lv_at hl 0 rfl) ?_
          refine z_get X hK hP hiX8 0 rfl rfl 2 (by decide) (bw_in W1_19) rfl dX8_set_50 ?_
          refine z_get X hK hP hiX2 17 rfl rfl 1 (by decide) (bw_in W18_11) rfl dX8_set_53 ?_
          obtain ⟨w5, ew5, hf⟩ := stp_e hf
          refine z_top ew5 ?_
          refine lv_istore_n (lv' := [(3, .int w5), (0, .ref (g 0 0)), (1, .int x1), (2, .int x2)]) X.1 X.2.1 dX8_set_56 rfl hl (by decide) rfl (fun ls hl => ?_)
          refine lv_aload_n X.1 X.2.1 dX8_set_57 rfl (lv_at hl 1 rfl) ?_
          refine z_get X hK hP hiX8 0 rfl rfl 2 (by decide) (bw_in W1_19) rfl dX8_set_58 ?_
          refine lv_iload_n X.1 X.2.1 dX8_set_61 rfl (lv_at hl 3 rfl) ?_
          obtain ⟨z6, ez6, hf⟩ := stp_e hf
          refine z_put (ws' := wbALL K g z6 y0) X hK hP hD hS hiX2 tyX2_ok nmX2 17 rfl rfl 1 (by decide) (bw_in W18_11) rfl rfl rfl (Nat.le_of_ble_eq_true rfl) dX8_set_62 (by rw [ez6]; rfl) (fun H locs hP hD hS => ?_)
          refine lv_goto (tgt := 71) X.1 X.2.1 dX8_set_65 (by decide) ?_
          refine lv_aload_n X.1 X.2.1 dX8_set_71 rfl (lv_at hl 1 rfl) ?_
          refine lv_iconst (v := 1) X.1 X.2.1 dX8_set_72 (by decide) ?_
          obtain ⟨z7, ez7, hf⟩ := stp_e hf
          refine z_put (ws' := wbALL K g z7 y0) X hK hP hD hS hiX8 tyX8_ok nmX8 0 rfl rfl 10 (by decide) (bw_in W2_18) rfl (by decide) (by decide) (Nat.le_of_ble_eq_true rfl) dX8_set_73 (by rw [ez7]; rfl) (fun H locs hP hD hS => ?_)
          refine lv_iload_n X.1 X.2.1 dX8_set_76 rfl (lv_at hl 0 rfl) ?_
          obtain ⟨rfl, rfl⟩ := z_inj2 hf
          exact z_iret X hr hlk hP hD hS dX8_set_77
  · have hf := ite_t hf c1
    refine lv_iload_n X.1 X.2.1 dX8_set_4 rfl (lv_at hl 2 rfl) ?_
    refine lv_if_lt (tgt := 33) X.1 X.2.1 dX8_set_5 (by decide) (fun c8 => ?_) (fun c8 => ?_)
    · have hf := ite_t hf c8
      refine lv_iload_n X.1 X.2.1 dX8_set_33 rfl (lv_at hl 1 rfl) ?_
      refine lv_iconst (v := 1) X.1 X.2.1 dX8_set_34 (by decide) ?_
      refine lv_icmp_ne (tgt := 68) X.1 X.2.1 dX8_set_35 (by decide) (fun c9 => ?_) (fun c9 => ?_)
      · have hf := ite_f hf c9
        refine lv_bipush (v := -2) X.1 X.2.1 dX8_set_68 (by decide) ?_
        obtain ⟨rfl, rfl⟩ := z_inj2 hf
        exact z_iret X hr hlk hP hD hS dX8_set_70
      · have hf := ite_t hf c9
        refine lv_iload_n X.1 X.2.1 dX8_set_38 rfl (lv_at hl 2 rfl) ?_
        refine lv_iconst (v := 1) X.1 X.2.1 dX8_set_39 (by decide) ?_
        refine lv_icmp_lt (tgt := 68) X.1 X.2.1 dX8_set_40 (by decide) (fun c10 => ?_) (fun c10 => ?_)
        · have hf := ite_t hf c10
          refine lv_bipush (v := -2) X.1 X.2.1 dX8_set_68 (by decide) ?_
          obtain ⟨rfl, rfl⟩ := z_inj2 hf
          exact z_iret X hr hlk hP hD hS dX8_set_70
        · have hf := ite_f hf c10
          refine lv_iload_n X.1 X.2.1 dX8_set_43 rfl (lv_at hl 2 rfl) ?_
          refine lv_bipush (v := 60) X.1 X.2.1 dX8_set_44 (by decide) ?_
          refine lv_icmp_gt (tgt := 68) X.1 X.2.1 dX8_set_46 (by decide) (fun c11 => ?_) (fun c11 => ?_)
          · have hf := ite_t hf c11
            refine lv_bipush (v := -2) X.1 X.2.1 dX8_set_68 (by decide) ?_
            obtain ⟨rfl, rfl⟩ := z_inj2 hf
            exact z_iret X hr hlk hP hD hS dX8_set_70
          · have hf := ite_f hf c11
            refine lv_aload_n X.1 X.2.1 dX8_set_49 rfl (lv_at hl 0 rfl) ?_
            refine z_get X hK hP hiX8 0 rfl rfl 2 (by decide) (bw_in W1_19) rfl dX8_set_50 ?_
            refine z_get X hK hP hiX2 17 rfl rfl 1 (by decide) (bw_in W18_11) rfl dX8_set_53 ?_
            obtain ⟨w12, ew12, hf⟩ := stp_e hf
            refine z_top ew12 ?_
            refine lv_istore_n (lv' := [(3, .int w12), (0, .ref (g 0 0)), (1, .int x1), (2, .int x2)]) X.1 X.2.1 dX8_set_56 rfl hl (by decide) rfl (fun ls hl => ?_)
            refine lv_aload_n X.1 X.2.1 dX8_set_57 rfl (lv_at hl 1 rfl) ?_
            refine z_get X hK hP hiX8 0 rfl rfl 2 (by decide) (bw_in W1_19) rfl dX8_set_58 ?_
            refine lv_iload_n X.1 X.2.1 dX8_set_61 rfl (lv_at hl 3 rfl) ?_
            obtain ⟨z13, ez13, hf⟩ := stp_e hf
            refine z_put (ws' := wbALL K g z13 y0) X hK hP hD hS hiX2 tyX2_ok nmX2 17 rfl rfl 1 (by decide) (bw_in W18_11) rfl rfl rfl (Nat.le_of_ble_eq_true rfl) dX8_set_62 (by rw [ez13]; rfl) (fun H locs hP hD hS => ?_)
            refine lv_goto (tgt := 71) X.1 X.2.1 dX8_set_65 (by decide) ?_
            refine lv_aload_n X.1 X.2.1 dX8_set_71 rfl (lv_at hl 1 rfl) ?_
            refine lv_iconst (v := 1) X.1 X.2.1 dX8_set_72 (by decide) ?_
            obtain ⟨z14, ez14, hf⟩ := stp_e hf
            refine z_put (ws' := wbALL K g z14 y0) X hK hP hD hS hiX8 tyX8_ok nmX8 0 rfl rfl 10 (by decide) (bw_in W2_18) rfl (by decide) (by decide) (Nat.le_of_ble_eq_true rfl) dX8_set_73 (by rw [ez14]; rfl) (fun H locs hP hD hS => ?_)
            refine lv_iload_n X.1 X.2.1 dX8_set_76 rfl (lv_at hl 0 rfl) ?_
            obtain ⟨rfl, rfl⟩ := z_inj2 hf
            exact z_iret X hr hlk hP hD hS dX8_set_77
    · have hf := ite_f hf c8
      refine lv_iload_n X.1 X.2.1 dX8_set_8 rfl (lv_at hl 2 rfl) ?_
      refine lv_bipush (v := 8) X.1 X.2.1 dX8_set_9 (by decide) ?_
      refine lv_icmp_gt (tgt := 33) X.1 X.2.1 dX8_set_11 (by decide) (fun c15 => ?_) (fun c15 => ?_)
      · have hf := ite_t hf c15
        refine lv_iload_n X.1 X.2.1 dX8_set_33 rfl (lv_at hl 1 rfl) ?_
        refine lv_iconst (v := 1) X.1 X.2.1 dX8_set_34 (by decide) ?_
        refine lv_icmp_ne (tgt := 68) X.1 X.2.1 dX8_set_35 (by decide) (fun c16 => ?_) (fun c16 => ?_)
        · have hf := ite_f hf c16
          refine lv_bipush (v := -2) X.1 X.2.1 dX8_set_68 (by decide) ?_
          obtain ⟨rfl, rfl⟩ := z_inj2 hf
          exact z_iret X hr hlk hP hD hS dX8_set_70
        · have hf := ite_t hf c16
          refine lv_iload_n X.1 X.2.1 dX8_set_38 rfl (lv_at hl 2 rfl) ?_
          refine lv_iconst (v := 1) X.1 X.2.1 dX8_set_39 (by decide) ?_
          refine lv_icmp_lt (tgt := 68) X.1 X.2.1 dX8_set_40 (by decide) (fun c17 => ?_) (fun c17 => ?_)
          · have hf := ite_t hf c17
            refine lv_bipush (v := -2) X.1 X.2.1 dX8_set_68 (by decide) ?_
            obtain ⟨rfl, rfl⟩ := z_inj2 hf
            exact z_iret X hr hlk hP hD hS dX8_set_70
          · have hf := ite_f hf c17
            refine lv_iload_n X.1 X.2.1 dX8_set_43 rfl (lv_at hl 2 rfl) ?_
            refine lv_bipush (v := 60) X.1 X.2.1 dX8_set_44 (by decide) ?_
            refine lv_icmp_gt (tgt := 68) X.1 X.2.1 dX8_set_46 (by decide) (fun c18 => ?_) (fun c18 => ?_)
            · have hf := ite_t hf c18
              refine lv_bipush (v := -2) X.1 X.2.1 dX8_set_68 (by decide) ?_
              obtain ⟨rfl, rfl⟩ := z_inj2 hf
              exact z_iret X hr hlk hP hD hS dX8_set_70
            · have hf := ite_f hf c18
              refine lv_aload_n X.1 X.2.1 dX8_set_49 rfl (lv_at hl 0 rfl) ?_
              refine z_get X hK hP hiX8 0 rfl rfl 2 (by decide) (bw_in W1_19) rfl dX8_set_50 ?_
              refine z_get X hK hP hiX2 17 rfl rfl 1 (by decide) (bw_in W18_11) rfl dX8_set_53 ?_
              obtain ⟨w19, ew19, hf⟩ := stp_e hf
              refine z_top ew19 ?_
              refine lv_istore_n (lv' := [(3, .int w19), (0, .ref (g 0 0)), (1, .int x1), (2, .int x2)]) X.1 X.2.1 dX8_set_56 rfl hl (by decide) rfl (fun ls hl => ?_)
              refine lv_aload_n X.1 X.2.1 dX8_set_57 rfl (lv_at hl 1 rfl) ?_
              refine z_get X hK hP hiX8 0 rfl rfl 2 (by decide) (bw_in W1_19) rfl dX8_set_58 ?_
              refine lv_iload_n X.1 X.2.1 dX8_set_61 rfl (lv_at hl 3 rfl) ?_
              obtain ⟨z20, ez20, hf⟩ := stp_e hf
              refine z_put (ws' := wbALL K g z20 y0) X hK hP hD hS hiX2 tyX2_ok nmX2 17 rfl rfl 1 (by decide) (bw_in W18_11) rfl rfl rfl (Nat.le_of_ble_eq_true rfl) dX8_set_62 (by rw [ez20]; rfl) (fun H locs hP hD hS => ?_)
              refine lv_goto (tgt := 71) X.1 X.2.1 dX8_set_65 (by decide) ?_
              refine lv_aload_n X.1 X.2.1 dX8_set_71 rfl (lv_at hl 1 rfl) ?_
              refine lv_iconst (v := 1) X.1 X.2.1 dX8_set_72 (by decide) ?_
              obtain ⟨z21, ez21, hf⟩ := stp_e hf
              refine z_put (ws' := wbALL K g z21 y0) X hK hP hD hS hiX8 tyX8_ok nmX8 0 rfl rfl 10 (by decide) (bw_in W2_18) rfl (by decide) (by decide) (Nat.le_of_ble_eq_true rfl) dX8_set_73 (by rw [ez21]; rfl) (fun H locs hP hD hS => ?_)
              refine lv_iload_n X.1 X.2.1 dX8_set_76 rfl (lv_at hl 0 rfl) ?_
              obtain ⟨rfl, rfl⟩ := z_inj2 hf
              exact z_iret X hr hlk hP hD hS dX8_set_77
      · have hf := ite_f hf c15
        refine lv_aload_n X.1 X.2.1 dX8_set_14 rfl (lv_at hl 0 rfl) ?_
        refine z_get X hK hP hiX8 0 rfl rfl 2 (by decide) (bw_in W1_19) rfl dX8_set_15 ?_
        refine z_get X hK hP hiX2 17 rfl rfl 0 (by decide) (bw_in W18_10) rfl dX8_set_18 ?_
        obtain ⟨w22, ew22, hf⟩ := stp_e hf
        refine z_top ew22 ?_
        refine lv_istore_n (lv' := [(3, .int w22), (0, .ref (g 0 0)), (1, .int x1), (2, .int x2)]) X.1 X.2.1 dX8_set_21 rfl hl (by decide) rfl (fun ls hl => ?_)
        refine lv_aload_n X.1 X.2.1 dX8_set_22 rfl (lv_at hl 1 rfl) ?_
        refine z_get X hK hP hiX8 0 rfl rfl 2 (by decide) (bw_in W1_19) rfl dX8_set_23 ?_
        refine lv_iload_n X.1 X.2.1 dX8_set_26 rfl (lv_at hl 3 rfl) ?_
        obtain ⟨z23, ez23, hf⟩ := stp_e hf
        refine z_put (ws' := wbALL K g z23 y0) X hK hP hD hS hiX2 tyX2_ok nmX2 17 rfl rfl 0 (by decide) (bw_in W18_10) rfl rfl rfl (Nat.le_of_ble_eq_true rfl) dX8_set_27 (by rw [ez23]; rfl) (fun H locs hP hD hS => ?_)
        refine lv_goto (tgt := 71) X.1 X.2.1 dX8_set_30 (by decide) ?_
        refine lv_aload_n X.1 X.2.1 dX8_set_71 rfl (lv_at hl 1 rfl) ?_
        refine lv_iconst (v := 1) X.1 X.2.1 dX8_set_72 (by decide) ?_
        obtain ⟨z24, ez24, hf⟩ := stp_e hf
        refine z_put (ws' := wbALL K g z24 y0) X hK hP hD hS hiX8 tyX8_ok nmX8 0 rfl rfl 10 (by decide) (bw_in W2_18) rfl (by decide) (by decide) (Nat.le_of_ble_eq_true rfl) dX8_set_73 (by rw [ez24]; rfl) (fun H locs hP hD hS => ?_)
        refine lv_iload_n X.1 X.2.1 dX8_set_76 rfl (lv_at hl 0 rfl) ?_
        obtain ⟨rfl, rfl⟩ := z_inj2 hf
        exact z_iret X hr hlk hP hD hS dX8_set_77
abbrev rmX8_sheet : Room := { frames := 2, cells := 0, slots := 0, locals := 45 }
set_option maxHeartbeats 4000000 in
set_option maxRecDepth 100000 in
theorem kX8_sheet (l : Launch) (D : va_G) (K : Nat → ClassId) (g : Nat → Nat → Nat) (z0 : Nat → St) (y0 : Nat → Lt) (sz : Nat) (x1 : Int32) (x2 : Int32) (x3 : Int32) (q_ : Int32) (z_ : Nat → St) (hf : fX8_sheet z0 y0 x1 x2 x3 = some (q_, z_)) : Met l yX8_sheet (bw (Cond.code yX8_sheet cX8_sheet 4 (some .int))) rmX8_sheet (va_Pc [.ref (g 0 0), .int x1, .int x2, .int x3] (zB D K sz (wbALL K g z0 y0))) (zQ (some (.int q_)) D (va_A (wbALL K g z0 y0) sz) (wbALL K g z_ y0)) 0 0 (va_A (wbALL K g z0 y0) sz) := by
  refine z_of (cc := cX8_sheet) (maxL := 4) (ret := (some .int)) (own := RX8) (lv := [(0, .ref (g 0 0)), (1, .int x1), (2, .int x2), (3, .int x3)]) (by decide) rfl rfl (Nat.le_of_ble_eq_true rfl) rfl ?_
  intro p e s m below meth c X hr hlk hK hN hsz hP hD hA hS hin ls hl
  generalize va_A (wbALL K g z0 y0) sz = A at hD hA hS hN ⊢
  have hiX8 : ∀ w ∈ u_ws RX8 TX8 11, w ∈ (bw (Cond.code yX8_sheet cX8_sheet 4 (some .int))) := fun w h => bw_in (inlX8 w h)
  rw [fX8_sheet] at hf
  refine lv_iload_n X.1 X.2.1 dX8_sheet_0 rfl (lv_at hl 1 rfl) ?_
  obtain ⟨r1, hc2, hf⟩ := bd1_e hf
  refine z_S (n := 1) (As := [.int x1]) (rest := []) X hK hN (kX8_noSuchSheet l D K _ x1 r1 hc2) (bw_S W31_13 W31_14 W1_2 W31_15) rfl ⟨rfl, rfl⟩ (by decide +kernel) rfl ⟨Nat.le_of_ble_eq_true rfl, Nat.le_of_ble_eq_true rfl⟩ (fun _ _ h => by simp at h) ⟨fun _ _ _ _ h => by simp at h, fun _ _ h => by simp at h⟩ (zj_none hP hD hS hA) hS hl.1 rfl (Nat.le_of_ble_eq_true rfl) dX8_sheet_1 ⟨Nat.zero_le _, Nat.zero_le _⟩ rfl (fun H locs hP hD hS => ?_)
  refine lv_if_ne (tgt := 20) X.1 X.2.1 dX8_sheet_4 (by decide) (fun c3 => ?_) (fun c3 => ?_)
  · have hf := ite_f hf c3
    refine lv_bipush (v := -2) X.1 X.2.1 dX8_sheet_20 (by decide) ?_
    obtain ⟨rfl, rfl⟩ := z_inj2 hf
    exact z_iret X hr hlk hP hD hS dX8_sheet_22
  · have hf := ite_t hf c3
    refine lv_iload_n X.1 X.2.1 dX8_sheet_7 rfl (lv_at hl 2 rfl) ?_
    obtain ⟨r4, hc5, hf⟩ := bd1_e hf
    refine z_S (n := 1) (As := [.int x2]) (rest := []) X hK hN (kX8_noSuchForm l D K _ x2 r4 hc5) (bw_S W38_15 W38_16 W1_2 W38_17) rfl ⟨rfl, rfl⟩ (by decide +kernel) rfl ⟨Nat.le_of_ble_eq_true rfl, Nat.le_of_ble_eq_true rfl⟩ (fun _ _ h => by simp at h) ⟨fun _ _ _ _ h => by simp at h, fun _ _ h => by simp at h⟩ (zj_none hP hD hS hA) hS hl.1 rfl (Nat.le_of_ble_eq_true rfl) dX8_sheet_8 ⟨Nat.zero_le _, Nat.zero_le _⟩ rfl (fun H locs hP hD hS => ?_)
    refine lv_if_ne (tgt := 20) X.1 X.2.1 dX8_sheet_11 (by decide) (fun c6 => ?_) (fun c6 => ?_)
    · have hf := ite_f hf c6
      refine lv_bipush (v := -2) X.1 X.2.1 dX8_sheet_20 (by decide) ?_
      obtain ⟨rfl, rfl⟩ := z_inj2 hf
      exact z_iret X hr hlk hP hD hS dX8_sheet_22
    · have hf := ite_t hf c6
      refine lv_iload_n X.1 X.2.1 dX8_sheet_14 rfl (lv_at hl 3 rfl) ?_
      refine lv_bipush (v := 60) X.1 X.2.1 dX8_sheet_15 (by decide) ?_
      refine lv_icmp_le (tgt := 23) X.1 X.2.1 dX8_sheet_17 (by decide) (fun c7 => ?_) (fun c7 => ?_)
      · have hf := ite_t hf c7
        refine lv_iload_n X.1 X.2.1 dX8_sheet_23 rfl (lv_at hl 3 rfl) ?_
        refine lv_if_ge (tgt := 33) X.1 X.2.1 dX8_sheet_24 (by decide) (fun c8 => ?_) (fun c8 => ?_)
        · have hf := ite_t hf c8
          refine lv_aload_n X.1 X.2.1 dX8_sheet_33 rfl (lv_at hl 0 rfl) ?_
          refine z_get X hK hP hiX8 0 rfl rfl 1 (by decide) (bw_in W1_15) rfl dX8_sheet_34 ?_
          refine lv_iload_n X.1 X.2.1 dX8_sheet_37 rfl (lv_at hl 1 rfl) ?_
          by_cases c9 : x1 = 0
          · have hf := ite_t hf c9
            refine z_aald X hK hP 2 3 rfl rfl (by rw [c9]; exact vp_lit _ _ (by decide)) (by rw [c9] <;> rfl) dX8_sheet_38 ?_
            refine lv_iload_n X.1 X.2.1 dX8_sheet_39 rfl (lv_at hl 2 rfl) ?_
            refine lv_iload_n X.1 X.2.1 dX8_sheet_40 rfl (lv_at hl 3 rfl) ?_
            obtain ⟨e10, hc11, hf⟩ := bd1_e hf
            obtain ⟨z12, ez12, hf⟩ := stp_e hf
            have hp13 : List.Perm (wbALL K g z0 y0) ((wbX5 K (g 4) (z0 4)) ++ ([0, 1, 2, 3, 5, 6, 7, 8, 9, 10, 11, 12, 13, 14].map (bfALL K g z0 y0)).flatten) := wbALL_perm [4, 0, 1, 2, 3, 5, 6, 7, 8, 9, 10, 11, 12, 13, 14] (by decide)
            refine z_V (n := 2) (As := [.int x2, .int x3]) (rest := []) (ci := 5) (q0 := 0) X hK hN (kX5_make l D K (g 4) (z0 4) _ x2 x3 e10 hc11) (bw_V W38_18 W38_19 W38_20 W2_22 W38_21) rfl ⟨rfl, rfl⟩ (by decide +kernel) rfl ⟨Nat.le_of_ble_eq_true rfl, Nat.le_of_ble_eq_true rfl⟩ (hP.perm hp13).lef (hD.perm hp13).lef rfl rfl (zj_perm (ws' := wbALL K g z12 y0) hP hD hS hA hp13 (by rw [ez12]; refine List.Perm.symm ?_; exact wbALL_perm [4, 0, 1, 2, 3, 5, 6, 7, 8, 9, 10, 11, 12, 13, 14] (by decide))) hS hl.1 rfl (Nat.le_of_ble_eq_true rfl) dX8_sheet_41 ⟨Nat.zero_le _, Nat.zero_le _⟩ rfl (fun H locs hP hD hS => ?_)
            refine lv_iload_n X.1 X.2.1 dX8_sheet_44 rfl (lv_at hl 3 rfl) ?_
            obtain ⟨rfl, rfl⟩ := z_inj2 hf
            exact z_iret X hr hlk hP hD hS dX8_sheet_45
          have hf := ite_f hf c9
          by_cases c14 : x1 = 1
          · have hf := ite_t hf c14
            refine z_aald X hK hP 2 3 rfl rfl (by rw [c14]; exact vp_lit _ _ (by decide)) (by rw [c14] <;> rfl) dX8_sheet_38 ?_
            refine lv_iload_n X.1 X.2.1 dX8_sheet_39 rfl (lv_at hl 2 rfl) ?_
            refine lv_iload_n X.1 X.2.1 dX8_sheet_40 rfl (lv_at hl 3 rfl) ?_
            obtain ⟨e15, hc16, hf⟩ := bd1_e hf
            obtain ⟨z17, ez17, hf⟩ := stp_e hf
            have hp18 : List.Perm (wbALL K g z0 y0) ((wbX5 K (g 5) (z0 5)) ++ ([0, 1, 2, 3, 4, 6, 7, 8, 9, 10, 11, 12, 13, 14].map (bfALL K g z0 y0)).flatten) := wbALL_perm [5, 0, 1, 2, 3, 4, 6, 7, 8, 9, 10, 11, 12, 13, 14] (by decide)
            refine z_V (n := 2) (As := [.int x2, .int x3]) (rest := []) (ci := 5) (q0 := 0) X hK hN (kX5_make l D K (g 5) (z0 5) _ x2 x3 e15 hc16) (bw_V W38_18 W38_19 W38_20 W2_22 W38_21) rfl ⟨rfl, rfl⟩ (by decide +kernel) rfl ⟨Nat.le_of_ble_eq_true rfl, Nat.le_of_ble_eq_true rfl⟩ (hP.perm hp18).lef (hD.perm hp18).lef rfl rfl (zj_perm (ws' := wbALL K g z17 y0) hP hD hS hA hp18 (by rw [ez17]; refine List.Perm.symm ?_; exact wbALL_perm [5, 0, 1, 2, 3, 4, 6, 7, 8, 9, 10, 11, 12, 13, 14] (by decide))) hS hl.1 rfl (Nat.le_of_ble_eq_true rfl) dX8_sheet_41 ⟨Nat.zero_le _, Nat.zero_le _⟩ rfl (fun H locs hP hD hS => ?_)
            refine lv_iload_n X.1 X.2.1 dX8_sheet_44 rfl (lv_at hl 3 rfl) ?_
            obtain ⟨rfl, rfl⟩ := z_inj2 hf
            exact z_iret X hr hlk hP hD hS dX8_sheet_45
          have hf := ite_f hf c14
          by_cases c19 : x1 = 2
          · have hf := ite_t hf c19
            refine z_aald X hK hP 2 3 rfl rfl (by rw [c19]; exact vp_lit _ _ (by decide)) (by rw [c19] <;> rfl) dX8_sheet_38 ?_
            refine lv_iload_n X.1 X.2.1 dX8_sheet_39 rfl (lv_at hl 2 rfl) ?_
            refine lv_iload_n X.1 X.2.1 dX8_sheet_40 rfl (lv_at hl 3 rfl) ?_
            obtain ⟨e20, hc21, hf⟩ := bd1_e hf
            obtain ⟨z22, ez22, hf⟩ := stp_e hf
            have hp23 : List.Perm (wbALL K g z0 y0) ((wbX5 K (g 6) (z0 6)) ++ ([0, 1, 2, 3, 4, 5, 7, 8, 9, 10, 11, 12, 13, 14].map (bfALL K g z0 y0)).flatten) := wbALL_perm [6, 0, 1, 2, 3, 4, 5, 7, 8, 9, 10, 11, 12, 13, 14] (by decide)
            refine z_V (n := 2) (As := [.int x2, .int x3]) (rest := []) (ci := 5) (q0 := 0) X hK hN (kX5_make l D K (g 6) (z0 6) _ x2 x3 e20 hc21) (bw_V W38_18 W38_19 W38_20 W2_22 W38_21) rfl ⟨rfl, rfl⟩ (by decide +kernel) rfl ⟨Nat.le_of_ble_eq_true rfl, Nat.le_of_ble_eq_true rfl⟩ (hP.perm hp23).lef (hD.perm hp23).lef rfl rfl (zj_perm (ws' := wbALL K g z22 y0) hP hD hS hA hp23 (by rw [ez22]; refine List.Perm.symm ?_; exact wbALL_perm [6, 0, 1, 2, 3, 4, 5, 7, 8, 9, 10, 11, 12, 13, 14] (by decide))) hS hl.1 rfl (Nat.le_of_ble_eq_true rfl) dX8_sheet_41 ⟨Nat.zero_le _, Nat.zero_le _⟩ rfl (fun H locs hP hD hS => ?_)
            refine lv_iload_n X.1 X.2.1 dX8_sheet_44 rfl (lv_at hl 3 rfl) ?_
            obtain ⟨rfl, rfl⟩ := z_inj2 hf
            exact z_iret X hr hlk hP hD hS dX8_sheet_45
          have hf := ite_f hf c19
          by_cases c24 : x1 = 3
          · have hf := ite_t hf c24
            refine z_aald X hK hP 2 3 rfl rfl (by rw [c24]; exact vp_lit _ _ (by decide)) (by rw [c24] <;> rfl) dX8_sheet_38 ?_
            refine lv_iload_n X.1 X.2.1 dX8_sheet_39 rfl (lv_at hl 2 rfl) ?_
            refine lv_iload_n X.1 X.2.1 dX8_sheet_40 rfl (lv_at hl 3 rfl) ?_
            obtain ⟨e25, hc26, hf⟩ := bd1_e hf
            obtain ⟨z27, ez27, hf⟩ := stp_e hf
            have hp28 : List.Perm (wbALL K g z0 y0) ((wbX5 K (g 7) (z0 7)) ++ ([0, 1, 2, 3, 4, 5, 6, 8, 9, 10, 11, 12, 13, 14].map (bfALL K g z0 y0)).flatten) := wbALL_perm [7, 0, 1, 2, 3, 4, 5, 6, 8, 9, 10, 11, 12, 13, 14] (by decide)
            refine z_V (n := 2) (As := [.int x2, .int x3]) (rest := []) (ci := 5) (q0 := 0) X hK hN (kX5_make l D K (g 7) (z0 7) _ x2 x3 e25 hc26) (bw_V W38_18 W38_19 W38_20 W2_22 W38_21) rfl ⟨rfl, rfl⟩ (by decide +kernel) rfl ⟨Nat.le_of_ble_eq_true rfl, Nat.le_of_ble_eq_true rfl⟩ (hP.perm hp28).lef (hD.perm hp28).lef rfl rfl (zj_perm (ws' := wbALL K g z27 y0) hP hD hS hA hp28 (by rw [ez27]; refine List.Perm.symm ?_; exact wbALL_perm [7, 0, 1, 2, 3, 4, 5, 6, 8, 9, 10, 11, 12, 13, 14] (by decide))) hS hl.1 rfl (Nat.le_of_ble_eq_true rfl) dX8_sheet_41 ⟨Nat.zero_le _, Nat.zero_le _⟩ rfl (fun H locs hP hD hS => ?_)
            refine lv_iload_n X.1 X.2.1 dX8_sheet_44 rfl (lv_at hl 3 rfl) ?_
            obtain ⟨rfl, rfl⟩ := z_inj2 hf
            exact z_iret X hr hlk hP hD hS dX8_sheet_45
          have hf := ite_f hf c24
          cases hf
        · have hf := ite_f hf c8
          refine lv_aload_n X.1 X.2.1 dX8_sheet_27 rfl (lv_at hl 0 rfl) ?_
          refine lv_iconst (v := 5) X.1 X.2.1 dX8_sheet_28 (by decide) ?_
          obtain ⟨r29, z30, hc31, hf⟩ := bd2_e hf
          refine z_V (n := 1) (As := [.int 5]) (rest := []) (ci := 8) (q0 := 0) X hK hN (kX8_find l D K g z0 y0 _ 5 r29 z30 hc31) (bw_V W31_16 W31_17 W31_18 W1_2 W31_19) rfl ⟨rfl, rfl⟩ (by decide +kernel) rfl ⟨Nat.le_of_ble_eq_true rfl, Nat.le_of_ble_eq_true rfl⟩ hP hD rfl rfl (zj_same hD hS hA) hS hl.1 rfl (Nat.le_of_ble_eq_true rfl) dX8_sheet_29 ⟨Nat.zero_le _, Nat.zero_le _⟩ rfl (fun H locs hP hD hS => ?_)
          obtain ⟨rfl, rfl⟩ := z_inj2 hf
          exact z_iret X hr hlk hP hD hS dX8_sheet_32
      · have hf := ite_f hf c7
        refine lv_bipush (v := -2) X.1 X.2.1 dX8_sheet_20 (by decide) ?_
        obtain ⟨rfl, rfl⟩ := z_inj2 hf
        exact z_iret X hr hlk hP hD hS dX8_sheet_22
abbrev rmX8_type : Room := { frames := 1, cells := 0, slots := 0, locals := 21 }
set_option maxHeartbeats 4000000 in
set_option maxRecDepth 100000 in
theorem kX8_type (l : Launch) (D : va_G) (K : Nat → ClassId) (g : Nat → Nat → Nat) (z0 : Nat → St) (y0 : Nat → Lt) (sz : Nat) (x1 : Int32) (x2 : Int32) (q_ : Int32) (z_ : Nat → St) (hf : fX8_type z0 y0 x1 x2 = some (q_, z_)) : Met l yX8_type (bw (Cond.code yX8_type cX8_type 3 (some .int))) rmX8_type (va_Pc [.ref (g 0 0), .int x1, .int x2] (zB D K sz (wbALL K g z0 y0))) (zQ (some (.int q_)) D (va_A (wbALL K g z0 y0) sz) (wbALL K g z_ y0)) 0 0 (va_A (wbALL K g z0 y0) sz) := by
  refine z_of (cc := cX8_type) (maxL := 3) (ret := (some .int)) (own := RX8) (lv := [(0, .ref (g 0 0)), (1, .int x1), (2, .int x2)]) (by decide) rfl rfl (Nat.le_of_ble_eq_true rfl) rfl ?_
  intro p e s m below meth c X hr hlk hK hN hsz hP hD hA hS hin ls hl
  generalize va_A (wbALL K g z0 y0) sz = A at hD hA hS hN ⊢
  have hiX7 : ∀ w ∈ u_ws RX7 TX7 4, w ∈ (bw (Cond.code yX8_type cX8_type 3 (some .int))) := fun w h => bw_in (inlX7 w h)
  have hiX8 : ∀ w ∈ u_ws RX8 TX8 11, w ∈ (bw (Cond.code yX8_type cX8_type 3 (some .int))) := fun w h => bw_in (inlX8 w h)
  rw [fX8_type] at hf
  refine lv_iload_n X.1 X.2.1 dX8_type_0 rfl (lv_at hl 1 rfl) ?_
  obtain ⟨r1, hc2, hf⟩ := bd1_e hf
  refine z_S (n := 1) (As := [.int x1]) (rest := []) X hK hN (kX8_noSuchText l D K _ x1 r1 hc2) (bw_S W8_3 W8_4 W1_2 W8_5) rfl ⟨rfl, rfl⟩ (by decide +kernel) rfl ⟨Nat.le_of_ble_eq_true rfl, Nat.le_of_ble_eq_true rfl⟩ (fun _ _ h => by simp at h) ⟨fun _ _ _ _ h => by simp at h, fun _ _ h => by simp at h⟩ (zj_none hP hD hS hA) hS hl.1 rfl (Nat.le_of_ble_eq_true rfl) dX8_type_1 ⟨Nat.zero_le _, Nat.zero_le _⟩ rfl (fun H locs hP hD hS => ?_)
  refine lv_if_ne (tgt := 18) X.1 X.2.1 dX8_type_4 (by decide) (fun c3 => ?_) (fun c3 => ?_)
  · have hf := ite_f hf c3
    refine lv_bipush (v := -2) X.1 X.2.1 dX8_type_18 (by decide) ?_
    obtain ⟨rfl, rfl⟩ := z_inj2 hf
    exact z_iret X hr hlk hP hD hS dX8_type_20
  · have hf := ite_t hf c3
    refine lv_iload_n X.1 X.2.1 dX8_type_7 rfl (lv_at hl 2 rfl) ?_
    refine lv_if_lt (tgt := 18) X.1 X.2.1 dX8_type_8 (by decide) (fun c4 => ?_) (fun c4 => ?_)
    · have hf := ite_t hf c4
      refine lv_bipush (v := -2) X.1 X.2.1 dX8_type_18 (by decide) ?_
      obtain ⟨rfl, rfl⟩ := z_inj2 hf
      exact z_iret X hr hlk hP hD hS dX8_type_20
    · have hf := ite_f hf c4
      refine lv_iload_n X.1 X.2.1 dX8_type_11 rfl (lv_at hl 2 rfl) ?_
      refine lv_sipush (v := 255) X.1 X.2.1 dX8_type_12 (by decide) ?_
      refine lv_icmp_le (tgt := 21) X.1 X.2.1 dX8_type_15 (by decide) (fun c5 => ?_) (fun c5 => ?_)
      · have hf := ite_t hf c5
        refine lv_aload_n X.1 X.2.1 dX8_type_21 rfl (lv_at hl 0 rfl) ?_
        refine z_get X hK hP hiX8 0 rfl rfl 0 (by decide) (bw_in W1_13) rfl dX8_type_22 ?_
        refine lv_iload_n X.1 X.2.1 dX8_type_25 rfl (lv_at hl 1 rfl) ?_
        by_cases c6 : x1 = 0
        · have hf := ite_t hf c6
          refine z_aald X hK hP 1 4 rfl rfl (by rw [c6]; exact vp_lit _ _ (by decide)) (by rw [c6] <;> rfl) dX8_type_26 ?_
          refine lv_iload_n X.1 X.2.1 dX8_type_27 rfl (lv_at hl 2 rfl) ?_
          obtain ⟨r7, t8, hc9, hf⟩ := bd2_e hf
          obtain ⟨z10, ez10, hf⟩ := stp_e hf
          have hp11 : List.Perm (wbALL K g z0 y0) ((wbX7 K (g 1) (z0 1)) ++ ([0, 2, 3, 4, 5, 6, 7, 8, 9, 10, 11, 12, 13, 14].map (bfALL K g z0 y0)).flatten) := wbALL_perm [1, 0, 2, 3, 4, 5, 6, 7, 8, 9, 10, 11, 12, 13, 14] (by decide)
          refine z_V (n := 1) (As := [.int x2]) (rest := []) (ci := 7) (q0 := 0) X hK hN (kX7_append l D K (g 1) (z0 1) _ x2 r7 t8 hc9) (bw_V W8_6 W8_7 W8_8 W2_20 W8_9) rfl ⟨rfl, rfl⟩ (by decide +kernel) rfl ⟨Nat.le_of_ble_eq_true rfl, Nat.le_of_ble_eq_true rfl⟩ (hP.perm hp11).lef (hD.perm hp11).lef rfl rfl (zj_perm (ws' := wbALL K g z10 y0) hP hD hS hA hp11 (by rw [ez10]; refine List.Perm.symm ?_; exact wbALL_perm [1, 0, 2, 3, 4, 5, 6, 7, 8, 9, 10, 11, 12, 13, 14] (by decide))) hS hl.1 rfl (Nat.le_of_ble_eq_true rfl) dX8_type_28 ⟨Nat.zero_le _, Nat.zero_le _⟩ rfl (fun H locs hP hD hS => ?_)
          refine lv_if_ne (tgt := 37) X.1 X.2.1 dX8_type_31 (by decide) (fun c12 => ?_) (fun c12 => ?_)
          · have hf := ite_f hf c12
            refine lv_aload_n X.1 X.2.1 dX8_type_37 rfl (lv_at hl 0 rfl) ?_
            refine lv_iconst (v := 1) X.1 X.2.1 dX8_type_38 (by decide) ?_
            obtain ⟨z13, ez13, hf⟩ := stp_e hf
            refine z_put (ws' := wbALL K g z13 y0) X hK hP hD hS hiX8 tyX8_ok nmX8 0 rfl rfl 10 (by decide) (bw_in W2_18) rfl (by decide) (by decide) (Nat.le_of_ble_eq_true rfl) dX8_type_39 (by rw [ez13]; rfl) (fun H locs hP hD hS => ?_)
            refine lv_aload_n X.1 X.2.1 dX8_type_42 rfl (lv_at hl 0 rfl) ?_
            refine z_get X hK hP hiX8 0 rfl rfl 0 (by decide) (bw_in W1_13) rfl dX8_type_43 ?_
            refine lv_iload_n X.1 X.2.1 dX8_type_46 rfl (lv_at hl 1 rfl) ?_
            refine z_aald X hK hP 1 4 rfl rfl (by rw [c6]; exact vp_lit _ _ (by decide)) (by rw [c6] <;> rfl) dX8_type_47 ?_
            refine z_get X hK hP hiX7 3 rfl rfl 3 (by decide) (bw_in W8_2) rfl dX8_type_48 ?_
            obtain ⟨rfl, rfl⟩ := z_inj2 hf
            exact z_iret X hr hlk hP hD hS dX8_type_51
          · have hf := ite_t hf c12
            refine lv_bipush (v := -4) X.1 X.2.1 dX8_type_34 (by decide) ?_
            obtain ⟨rfl, rfl⟩ := z_inj2 hf
            exact z_iret X hr hlk hP hD hS dX8_type_36
        have hf := ite_f hf c6
        by_cases c14 : x1 = 1
        · have hf := ite_t hf c14
          refine z_aald X hK hP 1 4 rfl rfl (by rw [c14]; exact vp_lit _ _ (by decide)) (by rw [c14] <;> rfl) dX8_type_26 ?_
          refine lv_iload_n X.1 X.2.1 dX8_type_27 rfl (lv_at hl 2 rfl) ?_
          obtain ⟨r15, t16, hc17, hf⟩ := bd2_e hf
          obtain ⟨z18, ez18, hf⟩ := stp_e hf
          have hp19 : List.Perm (wbALL K g z0 y0) ((wbX7 K (g 2) (z0 2)) ++ ([0, 1, 3, 4, 5, 6, 7, 8, 9, 10, 11, 12, 13, 14].map (bfALL K g z0 y0)).flatten) := wbALL_perm [2, 0, 1, 3, 4, 5, 6, 7, 8, 9, 10, 11, 12, 13, 14] (by decide)
          refine z_V (n := 1) (As := [.int x2]) (rest := []) (ci := 7) (q0 := 0) X hK hN (kX7_append l D K (g 2) (z0 2) _ x2 r15 t16 hc17) (bw_V W8_6 W8_7 W8_8 W2_20 W8_9) rfl ⟨rfl, rfl⟩ (by decide +kernel) rfl ⟨Nat.le_of_ble_eq_true rfl, Nat.le_of_ble_eq_true rfl⟩ (hP.perm hp19).lef (hD.perm hp19).lef rfl rfl (zj_perm (ws' := wbALL K g z18 y0) hP hD hS hA hp19 (by rw [ez18]; refine List.Perm.symm ?_; exact wbALL_perm [2, 0, 1, 3, 4, 5, 6, 7, 8, 9, 10, 11, 12, 13, 14] (by decide))) hS hl.1 rfl (Nat.le_of_ble_eq_true rfl) dX8_type_28 ⟨Nat.zero_le _, Nat.zero_le _⟩ rfl (fun H locs hP hD hS => ?_)
          refine lv_if_ne (tgt := 37) X.1 X.2.1 dX8_type_31 (by decide) (fun c20 => ?_) (fun c20 => ?_)
          · have hf := ite_f hf c20
            refine lv_aload_n X.1 X.2.1 dX8_type_37 rfl (lv_at hl 0 rfl) ?_
            refine lv_iconst (v := 1) X.1 X.2.1 dX8_type_38 (by decide) ?_
            obtain ⟨z21, ez21, hf⟩ := stp_e hf
            refine z_put (ws' := wbALL K g z21 y0) X hK hP hD hS hiX8 tyX8_ok nmX8 0 rfl rfl 10 (by decide) (bw_in W2_18) rfl (by decide) (by decide) (Nat.le_of_ble_eq_true rfl) dX8_type_39 (by rw [ez21]; rfl) (fun H locs hP hD hS => ?_)
            refine lv_aload_n X.1 X.2.1 dX8_type_42 rfl (lv_at hl 0 rfl) ?_
            refine z_get X hK hP hiX8 0 rfl rfl 0 (by decide) (bw_in W1_13) rfl dX8_type_43 ?_
            refine lv_iload_n X.1 X.2.1 dX8_type_46 rfl (lv_at hl 1 rfl) ?_
            refine z_aald X hK hP 1 4 rfl rfl (by rw [c14]; exact vp_lit _ _ (by decide)) (by rw [c14] <;> rfl) dX8_type_47 ?_
            refine z_get X hK hP hiX7 5 rfl rfl 3 (by decide) (bw_in W8_2) rfl dX8_type_48 ?_
            obtain ⟨rfl, rfl⟩ := z_inj2 hf
            exact z_iret X hr hlk hP hD hS dX8_type_51
          · have hf := ite_t hf c20
            refine lv_bipush (v := -4) X.1 X.2.1 dX8_type_34 (by decide) ?_
            obtain ⟨rfl, rfl⟩ := z_inj2 hf
            exact z_iret X hr hlk hP hD hS dX8_type_36
        have hf := ite_f hf c14
        by_cases c22 : x1 = 2
        · have hf := ite_t hf c22
          refine z_aald X hK hP 1 4 rfl rfl (by rw [c22]; exact vp_lit _ _ (by decide)) (by rw [c22] <;> rfl) dX8_type_26 ?_
          refine lv_iload_n X.1 X.2.1 dX8_type_27 rfl (lv_at hl 2 rfl) ?_
          obtain ⟨r23, t24, hc25, hf⟩ := bd2_e hf
          obtain ⟨z26, ez26, hf⟩ := stp_e hf
          have hp27 : List.Perm (wbALL K g z0 y0) ((wbX7 K (g 3) (z0 3)) ++ ([0, 1, 2, 4, 5, 6, 7, 8, 9, 10, 11, 12, 13, 14].map (bfALL K g z0 y0)).flatten) := wbALL_perm [3, 0, 1, 2, 4, 5, 6, 7, 8, 9, 10, 11, 12, 13, 14] (by decide)
          refine z_V (n := 1) (As := [.int x2]) (rest := []) (ci := 7) (q0 := 0) X hK hN (kX7_append l D K (g 3) (z0 3) _ x2 r23 t24 hc25) (bw_V W8_6 W8_7 W8_8 W2_20 W8_9) rfl ⟨rfl, rfl⟩ (by decide +kernel) rfl ⟨Nat.le_of_ble_eq_true rfl, Nat.le_of_ble_eq_true rfl⟩ (hP.perm hp27).lef (hD.perm hp27).lef rfl rfl (zj_perm (ws' := wbALL K g z26 y0) hP hD hS hA hp27 (by rw [ez26]; refine List.Perm.symm ?_; exact wbALL_perm [3, 0, 1, 2, 4, 5, 6, 7, 8, 9, 10, 11, 12, 13, 14] (by decide))) hS hl.1 rfl (Nat.le_of_ble_eq_true rfl) dX8_type_28 ⟨Nat.zero_le _, Nat.zero_le _⟩ rfl (fun H locs hP hD hS => ?_)
          refine lv_if_ne (tgt := 37) X.1 X.2.1 dX8_type_31 (by decide) (fun c28 => ?_) (fun c28 => ?_)
          · have hf := ite_f hf c28
            refine lv_aload_n X.1 X.2.1 dX8_type_37 rfl (lv_at hl 0 rfl) ?_
            refine lv_iconst (v := 1) X.1 X.2.1 dX8_type_38 (by decide) ?_
            obtain ⟨z29, ez29, hf⟩ := stp_e hf
            refine z_put (ws' := wbALL K g z29 y0) X hK hP hD hS hiX8 tyX8_ok nmX8 0 rfl rfl 10 (by decide) (bw_in W2_18) rfl (by decide) (by decide) (Nat.le_of_ble_eq_true rfl) dX8_type_39 (by rw [ez29]; rfl) (fun H locs hP hD hS => ?_)
            refine lv_aload_n X.1 X.2.1 dX8_type_42 rfl (lv_at hl 0 rfl) ?_
            refine z_get X hK hP hiX8 0 rfl rfl 0 (by decide) (bw_in W1_13) rfl dX8_type_43 ?_
            refine lv_iload_n X.1 X.2.1 dX8_type_46 rfl (lv_at hl 1 rfl) ?_
            refine z_aald X hK hP 1 4 rfl rfl (by rw [c22]; exact vp_lit _ _ (by decide)) (by rw [c22] <;> rfl) dX8_type_47 ?_
            refine z_get X hK hP hiX7 7 rfl rfl 3 (by decide) (bw_in W8_2) rfl dX8_type_48 ?_
            obtain ⟨rfl, rfl⟩ := z_inj2 hf
            exact z_iret X hr hlk hP hD hS dX8_type_51
          · have hf := ite_t hf c28
            refine lv_bipush (v := -4) X.1 X.2.1 dX8_type_34 (by decide) ?_
            obtain ⟨rfl, rfl⟩ := z_inj2 hf
            exact z_iret X hr hlk hP hD hS dX8_type_36
        have hf := ite_f hf c22
        cases hf
      · have hf := ite_f hf c5
        refine lv_bipush (v := -2) X.1 X.2.1 dX8_type_18 (by decide) ?_
        obtain ⟨rfl, rfl⟩ := z_inj2 hf
        exact z_iret X hr hlk hP hD hS dX8_type_20
abbrev rmX8_undo : Room := { frames := 1, cells := 0, slots := 0, locals := 20 }
set_option maxHeartbeats 4000000 in
set_option maxRecDepth 100000 in
theorem kX8_undo (l : Launch) (D : va_G) (K : Nat → ClassId) (g : Nat → Nat → Nat) (z0 : Nat → St) (y0 : Nat → Lt) (sz : Nat) (x1 : Int32) (q_ : Int32) (z_ : Nat → St) (hf : fX8_undo z0 y0 x1 = some (q_, z_)) : Met l yX8_undo (bw (Cond.code yX8_undo cX8_undo 2 (some .int))) rmX8_undo (va_Pc [.ref (g 0 0), .int x1] (zB D K sz (wbALL K g z0 y0))) (zQ (some (.int q_)) D (va_A (wbALL K g z0 y0) sz) (wbALL K g z_ y0)) 0 0 (va_A (wbALL K g z0 y0) sz) := by
  refine z_of (cc := cX8_undo) (maxL := 2) (ret := (some .int)) (own := RX8) (lv := [(0, .ref (g 0 0)), (1, .int x1)]) (by decide) rfl rfl (Nat.le_of_ble_eq_true rfl) rfl ?_
  intro p e s m below meth c X hr hlk hK hN hsz hP hD hA hS hin ls hl
  generalize va_A (wbALL K g z0 y0) sz = A at hD hA hS hN ⊢
  have hiX7 : ∀ w ∈ u_ws RX7 TX7 4, w ∈ (bw (Cond.code yX8_undo cX8_undo 2 (some .int))) := fun w h => bw_in (inlX7 w h)
  have hiX8 : ∀ w ∈ u_ws RX8 TX8 11, w ∈ (bw (Cond.code yX8_undo cX8_undo 2 (some .int))) := fun w h => bw_in (inlX8 w h)
  rw [fX8_undo] at hf
  refine lv_iload_n X.1 X.2.1 dX8_undo_0 rfl (lv_at hl 1 rfl) ?_
  obtain ⟨r1, hc2, hf⟩ := bd1_e hf
  refine z_S (n := 1) (As := [.int x1]) (rest := []) X hK hN (kX8_noSuchText l D K _ x1 r1 hc2) (bw_S W8_3 W8_4 W1_2 W8_5) rfl ⟨rfl, rfl⟩ (by decide +kernel) rfl ⟨Nat.le_of_ble_eq_true rfl, Nat.le_of_ble_eq_true rfl⟩ (fun _ _ h => by simp at h) ⟨fun _ _ _ _ h => by simp at h, fun _ _ h => by simp at h⟩ (zj_none hP hD hS hA) hS hl.1 rfl (Nat.le_of_ble_eq_true rfl) dX8_undo_1 ⟨Nat.zero_le _, Nat.zero_le _⟩ rfl (fun H locs hP hD hS => ?_)
  refine lv_if_eq (tgt := 10) X.1 X.2.1 dX8_undo_4 (by decide) (fun c3 => ?_) (fun c3 => ?_)
  · have hf := ite_t hf c3
    refine lv_aload_n X.1 X.2.1 dX8_undo_10 rfl (lv_at hl 0 rfl) ?_
    refine z_get X hK hP hiX8 0 rfl rfl 0 (by decide) (bw_in W1_13) rfl dX8_undo_11 ?_
    refine lv_iload_n X.1 X.2.1 dX8_undo_14 rfl (lv_at hl 1 rfl) ?_
    by_cases c4 : x1 = 0
    · have hf := ite_t hf c4
      refine z_aald X hK hP 1 4 rfl rfl (by rw [c4]; exact vp_lit _ _ (by decide)) (by rw [c4] <;> rfl) dX8_undo_15 ?_
      refine z_get X hK hP hiX7 3 rfl rfl 3 (by decide) (bw_in W8_2) rfl dX8_undo_16 ?_
      refine lv_if_ne (tgt := 25) X.1 X.2.1 dX8_undo_19 (by decide) (fun c5 => ?_) (fun c5 => ?_)
      · have hf := ite_f hf c5
        refine lv_aload_n X.1 X.2.1 dX8_undo_25 rfl (lv_at hl 0 rfl) ?_
        refine z_get X hK hP hiX8 0 rfl rfl 0 (by decide) (bw_in W1_13) rfl dX8_undo_26 ?_
        refine lv_iload_n X.1 X.2.1 dX8_undo_29 rfl (lv_at hl 1 rfl) ?_
        refine z_aald X hK hP 1 4 rfl rfl (by rw [c4]; exact vp_lit _ _ (by decide)) (by rw [c4] <;> rfl) dX8_undo_30 ?_
        refine lv_dup X.1 X.2.1 dX8_undo_31 rfl ?_
        refine z_get X hK hP hiX7 3 rfl rfl 3 (by decide) (bw_in W8_2) rfl dX8_undo_32 ?_
        refine lv_iconst (v := 1) X.1 X.2.1 dX8_undo_35 (by decide) ?_
        refine lv_isub X.1 X.2.1 dX8_undo_36 ?_
        obtain ⟨z6, ez6, hf⟩ := stp_e hf
        refine z_put (ws' := wbALL K g z6 y0) X hK hP hD hS hiX7 tyX7_ok nmX7 3 rfl rfl 3 (by decide) (bw_in W8_2) rfl rfl rfl (Nat.le_of_ble_eq_true rfl) dX8_undo_37 (by rw [ez6]; rfl) (fun H locs hP hD hS => ?_)
        refine lv_aload_n X.1 X.2.1 dX8_undo_40 rfl (lv_at hl 0 rfl) ?_
        refine lv_iconst (v := 1) X.1 X.2.1 dX8_undo_41 (by decide) ?_
        obtain ⟨z7, ez7, hf⟩ := stp_e hf
        refine z_put (ws' := wbALL K g z7 y0) X hK hP hD hS hiX8 tyX8_ok nmX8 0 rfl rfl 10 (by decide) (bw_in W2_18) rfl (by decide) (by decide) (Nat.le_of_ble_eq_true rfl) dX8_undo_42 (by rw [ez7]; rfl) (fun H locs hP hD hS => ?_)
        refine lv_aload_n X.1 X.2.1 dX8_undo_45 rfl (lv_at hl 0 rfl) ?_
        refine z_get X hK hP hiX8 0 rfl rfl 0 (by decide) (bw_in W1_13) rfl dX8_undo_46 ?_
        refine lv_iload_n X.1 X.2.1 dX8_undo_49 rfl (lv_at hl 1 rfl) ?_
        refine z_aald X hK hP 1 4 rfl rfl (by rw [c4]; exact vp_lit _ _ (by decide)) (by rw [c4] <;> rfl) dX8_undo_50 ?_
        refine z_get X hK hP hiX7 3 rfl rfl 3 (by decide) (bw_in W8_2) rfl dX8_undo_51 ?_
        obtain ⟨rfl, rfl⟩ := z_inj2 hf
        exact z_iret X hr hlk hP hD hS dX8_undo_54
      · have hf := ite_t hf c5
        refine lv_bipush (v := -3) X.1 X.2.1 dX8_undo_22 (by decide) ?_
        obtain ⟨rfl, rfl⟩ := z_inj2 hf
        exact z_iret X hr hlk hP hD hS dX8_undo_24
    have hf := ite_f hf c4
    by_cases c8 : x1 = 1
    · have hf := ite_t hf c8
      refine z_aald X hK hP 1 4 rfl rfl (by rw [c8]; exact vp_lit _ _ (by decide)) (by rw [c8] <;> rfl) dX8_undo_15 ?_
      refine z_get X hK hP hiX7 5 rfl rfl 3 (by decide) (bw_in W8_2) rfl dX8_undo_16 ?_
      refine lv_if_ne (tgt := 25) X.1 X.2.1 dX8_undo_19 (by decide) (fun c9 => ?_) (fun c9 => ?_)
      · have hf := ite_f hf c9
        refine lv_aload_n X.1 X.2.1 dX8_undo_25 rfl (lv_at hl 0 rfl) ?_
        refine z_get X hK hP hiX8 0 rfl rfl 0 (by decide) (bw_in W1_13) rfl dX8_undo_26 ?_
        refine lv_iload_n X.1 X.2.1 dX8_undo_29 rfl (lv_at hl 1 rfl) ?_
        refine z_aald X hK hP 1 4 rfl rfl (by rw [c8]; exact vp_lit _ _ (by decide)) (by rw [c8] <;> rfl) dX8_undo_30 ?_
        refine lv_dup X.1 X.2.1 dX8_undo_31 rfl ?_
        refine z_get X hK hP hiX7 5 rfl rfl 3 (by decide) (bw_in W8_2) rfl dX8_undo_32 ?_
        refine lv_iconst (v := 1) X.1 X.2.1 dX8_undo_35 (by decide) ?_
        refine lv_isub X.1 X.2.1 dX8_undo_36 ?_
        obtain ⟨z10, ez10, hf⟩ := stp_e hf
        refine z_put (ws' := wbALL K g z10 y0) X hK hP hD hS hiX7 tyX7_ok nmX7 5 rfl rfl 3 (by decide) (bw_in W8_2) rfl rfl rfl (Nat.le_of_ble_eq_true rfl) dX8_undo_37 (by rw [ez10]; rfl) (fun H locs hP hD hS => ?_)
        refine lv_aload_n X.1 X.2.1 dX8_undo_40 rfl (lv_at hl 0 rfl) ?_
        refine lv_iconst (v := 1) X.1 X.2.1 dX8_undo_41 (by decide) ?_
        obtain ⟨z11, ez11, hf⟩ := stp_e hf
        refine z_put (ws' := wbALL K g z11 y0) X hK hP hD hS hiX8 tyX8_ok nmX8 0 rfl rfl 10 (by decide) (bw_in W2_18) rfl (by decide) (by decide) (Nat.le_of_ble_eq_true rfl) dX8_undo_42 (by rw [ez11]; rfl) (fun H locs hP hD hS => ?_)
        refine lv_aload_n X.1 X.2.1 dX8_undo_45 rfl (lv_at hl 0 rfl) ?_
        refine z_get X hK hP hiX8 0 rfl rfl 0 (by decide) (bw_in W1_13) rfl dX8_undo_46 ?_
        refine lv_iload_n X.1 X.2.1 dX8_undo_49 rfl (lv_at hl 1 rfl) ?_
        refine z_aald X hK hP 1 4 rfl rfl (by rw [c8]; exact vp_lit _ _ (by decide)) (by rw [c8] <;> rfl) dX8_undo_50 ?_
        refine z_get X hK hP hiX7 5 rfl rfl 3 (by decide) (bw_in W8_2) rfl dX8_undo_51 ?_
        obtain ⟨rfl, rfl⟩ := z_inj2 hf
        exact z_iret X hr hlk hP hD hS dX8_undo_54
      · have hf := ite_t hf c9
        refine lv_bipush (v := -3) X.1 X.2.1 dX8_undo_22 (by decide) ?_
        obtain ⟨rfl, rfl⟩ := z_inj2 hf
        exact z_iret X hr hlk hP hD hS dX8_undo_24
    have hf := ite_f hf c8
    by_cases c12 : x1 = 2
    · have hf := ite_t hf c12
      refine z_aald X hK hP 1 4 rfl rfl (by rw [c12]; exact vp_lit _ _ (by decide)) (by rw [c12] <;> rfl) dX8_undo_15 ?_
      refine z_get X hK hP hiX7 7 rfl rfl 3 (by decide) (bw_in W8_2) rfl dX8_undo_16 ?_
      refine lv_if_ne (tgt := 25) X.1 X.2.1 dX8_undo_19 (by decide) (fun c13 => ?_) (fun c13 => ?_)
      · have hf := ite_f hf c13
        refine lv_aload_n X.1 X.2.1 dX8_undo_25 rfl (lv_at hl 0 rfl) ?_
        refine z_get X hK hP hiX8 0 rfl rfl 0 (by decide) (bw_in W1_13) rfl dX8_undo_26 ?_
        refine lv_iload_n X.1 X.2.1 dX8_undo_29 rfl (lv_at hl 1 rfl) ?_
        refine z_aald X hK hP 1 4 rfl rfl (by rw [c12]; exact vp_lit _ _ (by decide)) (by rw [c12] <;> rfl) dX8_undo_30 ?_
        refine lv_dup X.1 X.2.1 dX8_undo_31 rfl ?_
        refine z_get X hK hP hiX7 7 rfl rfl 3 (by decide) (bw_in W8_2) rfl dX8_undo_32 ?_
        refine lv_iconst (v := 1) X.1 X.2.1 dX8_undo_35 (by decide) ?_
        refine lv_isub X.1 X.2.1 dX8_undo_36 ?_
        obtain ⟨z14, ez14, hf⟩ := stp_e hf
        refine z_put (ws' := wbALL K g z14 y0) X hK hP hD hS hiX7 tyX7_ok nmX7 7 rfl rfl 3 (by decide) (bw_in W8_2) rfl rfl rfl (Nat.le_of_ble_eq_true rfl) dX8_undo_37 (by rw [ez14]; rfl) (fun H locs hP hD hS => ?_)
        refine lv_aload_n X.1 X.2.1 dX8_undo_40 rfl (lv_at hl 0 rfl) ?_
        refine lv_iconst (v := 1) X.1 X.2.1 dX8_undo_41 (by decide) ?_
        obtain ⟨z15, ez15, hf⟩ := stp_e hf
        refine z_put (ws' := wbALL K g z15 y0) X hK hP hD hS hiX8 tyX8_ok nmX8 0 rfl rfl 10 (by decide) (bw_in W2_18) rfl (by decide) (by decide) (Nat.le_of_ble_eq_true rfl) dX8_undo_42 (by rw [ez15]; rfl) (fun H locs hP hD hS => ?_)
        refine lv_aload_n X.1 X.2.1 dX8_undo_45 rfl (lv_at hl 0 rfl) ?_
        refine z_get X hK hP hiX8 0 rfl rfl 0 (by decide) (bw_in W1_13) rfl dX8_undo_46 ?_
        refine lv_iload_n X.1 X.2.1 dX8_undo_49 rfl (lv_at hl 1 rfl) ?_
        refine z_aald X hK hP 1 4 rfl rfl (by rw [c12]; exact vp_lit _ _ (by decide)) (by rw [c12] <;> rfl) dX8_undo_50 ?_
        refine z_get X hK hP hiX7 7 rfl rfl 3 (by decide) (bw_in W8_2) rfl dX8_undo_51 ?_
        obtain ⟨rfl, rfl⟩ := z_inj2 hf
        exact z_iret X hr hlk hP hD hS dX8_undo_54
      · have hf := ite_t hf c13
        refine lv_bipush (v := -3) X.1 X.2.1 dX8_undo_22 (by decide) ?_
        obtain ⟨rfl, rfl⟩ := z_inj2 hf
        exact z_iret X hr hlk hP hD hS dX8_undo_24
    have hf := ite_f hf c12
    cases hf
  · have hf := ite_f hf c3
    refine lv_bipush (v := -2) X.1 X.2.1 dX8_undo_7 (by decide) ?_
    obtain ⟨rfl, rfl⟩ := z_inj2 hf
    exact z_iret X hr hlk hP hD hS dX8_undo_9
abbrev rmX8_wipe : Room := { frames := 1, cells := 0, slots := 0, locals := 20 }
set_option maxHeartbeats 4000000 in
set_option maxRecDepth 100000 in
theorem kX8_wipe (l : Launch) (D : va_G) (K : Nat → ClassId) (g : Nat → Nat → Nat) (z0 : Nat → St) (y0 : Nat → Lt) (sz : Nat) (x1 : Int32) (q_ : Int32) (z_ : Nat → St) (hf : fX8_wipe z0 y0 x1 = some (q_, z_)) : Met l yX8_wipe (bw (Cond.code yX8_wipe cX8_wipe 3 (some .int))) rmX8_wipe (va_Pc [.ref (g 0 0), .int x1] (zB D K sz (wbALL K g z0 y0))) (zQ (some (.int q_)) D (va_A (wbALL K g z0 y0) sz) (wbALL K g z_ y0)) 0 0 (va_A (wbALL K g z0 y0) sz) := by
  refine z_of (cc := cX8_wipe) (maxL := 3) (ret := (some .int)) (own := RX8) (lv := [(0, .ref (g 0 0)), (1, .int x1)]) (by decide) rfl rfl (Nat.le_of_ble_eq_true rfl) rfl ?_
  intro p e s m below meth c X hr hlk hK hN hsz hP hD hA hS hin ls hl
  generalize va_A (wbALL K g z0 y0) sz = A at hD hA hS hN ⊢
  have hiX7 : ∀ w ∈ u_ws RX7 TX7 4, w ∈ (bw (Cond.code yX8_wipe cX8_wipe 3 (some .int))) := fun w h => bw_in (inlX7 w h)
  have hiX8 : ∀ w ∈ u_ws RX8 TX8 11, w ∈ (bw (Cond.code yX8_wipe cX8_wipe 3 (some .int))) := fun w h => bw_in (inlX8 w h)
  rw [fX8_wipe] at hf
  refine lv_iload_n X.1 X.2.1 dX8_wipe_0 rfl (lv_at hl 1 rfl) ?_
  obtain ⟨r1, hc2, hf⟩ := bd1_e hf
  refine z_S (n := 1) (As := [.int x1]) (rest := []) X hK hN (kX8_noSuchText l D K _ x1 r1 hc2) (bw_S W8_3 W8_4 W1_2 W8_5) rfl ⟨rfl, rfl⟩ (by decide +kernel) rfl ⟨Nat.le_of_ble_eq_true rfl, Nat.le_of_ble_eq_true rfl⟩ (fun _ _ h => by simp at h) ⟨fun _ _ _ _ h => by simp at h, fun _ _ h => by simp at h⟩ (zj_none hP hD hS hA) hS hl.1 rfl (Nat.le_of_ble_eq_true rfl) dX8_wipe_1 ⟨Nat.zero_le _, Nat.zero_le _⟩ rfl (fun H locs hP hD hS => ?_)
  refine lv_if_eq (tgt := 10) X.1 X.2.1 dX8_wipe_4 (by decide) (fun c3 => ?_) (fun c3 => ?_)
  · have hf := ite_t hf c3
    refine lv_aload_n X.1 X.2.1 dX8_wipe_10 rfl (lv_at hl 0 rfl) ?_
    refine z_get X hK hP hiX8 0 rfl rfl 0 (by decide) (bw_in W1_13) rfl dX8_wipe_11 ?_
    refine lv_iload_n X.1 X.2.1 dX8_wipe_14 rfl (lv_at hl 1 rfl) ?_
    by_cases c4 : x1 = 0
    · have hf := ite_t hf c4
      refine z_aald X hK hP 1 4 rfl rfl (by rw [c4]; exact vp_lit _ _ (by decide)) (by rw [c4] <;> rfl) dX8_wipe_15 ?_
      refine z_get X hK hP hiX7 3 rfl rfl 3 (by decide) (bw_in W8_2) rfl dX8_wipe_16 ?_
      obtain ⟨w5, ew5, hf⟩ := stp_e hf
      refine z_top ew5 ?_
      refine lv_istore_n (lv' := [(2, .int w5), (0, .ref (g 0 0)), (1, .int x1)]) X.1 X.2.1 dX8_wipe_19 rfl hl (by decide) rfl (fun ls hl => ?_)
      refine lv_aload_n X.1 X.2.1 dX8_wipe_20 rfl (lv_at hl 1 rfl) ?_
      refine z_get X hK hP hiX8 0 rfl rfl 0 (by decide) (bw_in W1_13) rfl dX8_wipe_21 ?_
      refine lv_iload_n X.1 X.2.1 dX8_wipe_24 rfl (lv_at hl 2 rfl) ?_
      refine z_aald X hK hP 1 4 rfl rfl (by rw [c4]; exact vp_lit _ _ (by decide)) (by rw [c4] <;> rfl) dX8_wipe_25 ?_
      refine lv_iconst (v := 0) X.1 X.2.1 dX8_wipe_26 (by decide) ?_
      obtain ⟨z6, ez6, hf⟩ := stp_e hf
      refine z_put (ws' := wbALL K g z6 y0) X hK hP hD hS hiX7 tyX7_ok nmX7 3 rfl rfl 3 (by decide) (bw_in W8_2) rfl rfl rfl (Nat.le_of_ble_eq_true rfl) dX8_wipe_27 (by rw [ez6]; rfl) (fun H locs hP hD hS => ?_)
      refine lv_aload_n X.1 X.2.1 dX8_wipe_30 rfl (lv_at hl 1 rfl) ?_
      refine lv_iconst (v := 1) X.1 X.2.1 dX8_wipe_31 (by decide) ?_
      obtain ⟨z7, ez7, hf⟩ := stp_e hf
      refine z_put (ws' := wbALL K g z7 y0) X hK hP hD hS hiX8 tyX8_ok nmX8 0 rfl rfl 10 (by decide) (bw_in W2_18) rfl (by decide) (by decide) (Nat.le_of_ble_eq_true rfl) dX8_wipe_32 (by rw [ez7]; rfl) (fun H locs hP hD hS => ?_)
      refine lv_iload_n X.1 X.2.1 dX8_wipe_35 rfl (lv_at hl 0 rfl) ?_
      obtain ⟨rfl, rfl⟩ := z_inj2 hf
      exact z_iret X hr hlk hP hD hS dX8_wipe_36
    have hf := ite_f hf c4
    by_cases c8 : x1 = 1
    · have hf := ite_t hf c8
      refine z_aald X hK hP 1 4 rfl rfl (by rw [c8]; exact vp_lit _ _ (by decide)) (by rw [c8] <;> rfl) dX8_wipe_15 ?_
      refine z_get X hK hP hiX7 5 rfl rfl 3 (by decide) (bw_in W8_2) rfl dX8_wipe_16 ?_
      obtain ⟨w9, ew9, hf⟩ := stp_e hf
      refine z_top ew9 ?_
      refine lv_istore_n (lv' := [(2, .int w9), (0, .ref (g 0 0)), (1, .int x1)]) X.1 X.2.1 dX8_wipe_19 rfl hl (by decide) rfl (fun ls hl => ?_)
      refine lv_aload_n X.1 X.2.1 dX8_wipe_20 rfl (lv_at hl 1 rfl) ?_
      refine z_get X hK hP hiX8 0 rfl rfl 0 (by decide) (bw_in W1_13) rfl dX8_wipe_21 ?_
      refine lv_iload_n X.1 X.2.1 dX8_wipe_24 rfl (lv_at hl 2 rfl) ?_
      refine z_aald X hK hP 1 4 rfl rfl (by rw [c8]; exact vp_lit _ _ (by decide)) (by rw [c8] <;> rfl) dX8_wipe_25 ?_
      refine lv_iconst (v := 0) X.1 X.2.1 dX8_wipe_26 (by decide) ?_
      obtain ⟨z10, ez10, hf⟩ := stp_e hf
      refine z_put (ws' := wbALL K g z10 y0) X hK hP hD hS hiX7 tyX7_ok nmX7 5 rfl rfl 3 (by decide) (bw_in W8_2) rfl rfl rfl (Nat.le_of_ble_eq_true rfl) dX8_wipe_27 (by rw [ez10]; rfl) (fun H locs hP hD hS => ?_)
      refine lv_aload_n X.1 X.2.1 dX8_wipe_30 rfl (lv_at hl 1 rfl) ?_
      refine lv_iconst (v := 1) X.1 X.2.1 dX8_wipe_31 (by decide) ?_
      obtain ⟨z11, ez11, hf⟩ := stp_e hf
      refine z_put (ws' := wbALL K g z11 y0) X hK hP hD hS hiX8 tyX8_ok nmX8 0 rfl rfl 10 (by decide) (bw_in W2_18) rfl (by decide) (by decide) (Nat.le_of_ble_eq_true rfl) dX8_wipe_32 (by rw [ez11]; rfl) (fun H locs hP hD hS => ?_)
      refine lv_iload_n X.1 X.2.1 dX8_wipe_35 rfl (lv_at hl 0 rfl) ?_
      obtain ⟨rfl, rfl⟩ := z_inj2 hf
      exact z_iret X hr hlk hP hD hS dX8_wipe_36
    have hf := ite_f hf c8
    by_cases c12 : x1 = 2
    · have hf := ite_t hf c12
      refine z_aald X hK hP 1 4 rfl rfl (by rw [c12]; exact vp_lit _ _ (by decide)) (by rw [c12] <;> rfl) dX8_wipe_15 ?_
      refine z_get X hK hP hiX7 7 rfl rfl 3 (by decide) (bw_in W8_2) rfl dX8_wipe_16 ?_
      obtain ⟨w13, ew13, hf⟩ := stp_e hf
      refine z_top ew13 ?_
      refine lv_istore_n (lv' := [(2, .int w13), (0, .ref (g 0 0)), (1, .int x1)]) X.1 X.2.1 dX8_wipe_19 rfl hl (by decide) rfl (fun ls hl => ?_)
      refine lv_aload_n X.1 X.2.1 dX8_wipe_20 rfl (lv_at hl 1 rfl) ?_
      refine z_get X hK hP hiX8 0 rfl rfl 0 (by decide) (bw_in W1_13) rfl dX8_wipe_21 ?_
      refine lv_iload_n X.1 X.2.1 dX8_wipe_24 rfl (lv_at hl 2 rfl) ?_
      refine z_aald X hK hP 1 4 rfl rfl (by rw [c12]; exact vp_lit _ _ (by decide)) (by rw [c12] <;> rfl) dX8_wipe_25 ?_
      refine lv_iconst (v := 0) X.1 X.2.1 dX8_wipe_26 (by decide) ?_
      obtain ⟨z14, ez14, hf⟩ := stp_e hf
      refine z_put (ws' := wbALL K g z14 y0) X hK hP hD hS hiX7 tyX7_ok nmX7 7 rfl rfl 3 (by decide) (bw_in W8_2) rfl rfl rfl (Nat.le_of_ble_eq_true rfl) dX8_wipe_27 (by rw [ez14]; rfl) (fun H locs hP hD hS => ?_)
      refine lv_aload_n X.1 X.2.1 dX8_wipe_30 rfl (lv_at hl 1 rfl) ?_
      refine lv_iconst (v := 1) X.1 X.2.1 dX8_wipe_31 (by decide) ?_
      obtain ⟨z15, ez15, hf⟩ := stp_e hf
      refine z_put (ws' := wbALL K g z15 y0) X hK hP hD hS hiX8 tyX8_ok nmX8 0 rfl rfl 10 (by decide) (bw_in W2_18) rfl (by decide) (by decide) (Nat.le_of_ble_eq_true rfl) dX8_wipe_32 (by rw [ez15]; rfl) (fun H locs hP hD hS => ?_)
      refine lv_iload_n X.1 X.2.1 dX8_wipe_35 rfl (lv_at hl 0 rfl) ?_
      obtain ⟨rfl, rfl⟩ := z_inj2 hf
      exact z_iret X hr hlk hP hD hS dX8_wipe_36
    have hf := ite_f hf c12
    cases hf
  · have hf := ite_f hf c3
    refine lv_bipush (v := -2) X.1 X.2.1 dX8_wipe_7 (by decide) ?_
    obtain ⟨rfl, rfl⟩ := z_inj2 hf
    exact z_iret X hr hlk hP hD hS dX8_wipe_9
abbrev rmX8_write : Room := { frames := 5, cells := 0, slots := 0, locals := 118 }
set_option maxHeartbeats 4000000 in
set_option maxRecDepth 100000 in
theorem kX8_write (l : Launch) (D : va_G) (K : Nat → ClassId) (g : Nat → Nat → Nat) (z0 : Nat → St) (y0 : Nat → Lt) (sz : Nat) (x1 : Int32) (x2 : Int32) (q_ : Int32) (z_ : Nat → St) (hf : fX8_write z0 y0 x1 x2 = some (q_, z_)) : Met l yX8_write (bw (Cond.code yX8_write cX8_write 5 (some .int))) rmX8_write (va_Pc [.ref (g 0 0), .int x1, .int x2] (zB D K sz (wbALL K g z0 y0))) (zQ (some (.int q_)) D (va_A (wbALL K g z0 y0) sz) (wbALL K g z_ y0)) 0 0 (va_A (wbALL K g z0 y0) sz) := by
  refine z_of (cc := cX8_write) (maxL := 5) (ret := (some .int)) (own := RX8) (lv := [(0, .ref (g 0 0)), (1, .int x1), (2, .int x2)]) (by decide) rfl rfl (Nat.le_of_ble_eq_true rfl) rfl ?_
  intro p e s m below meth c X hr hlk hK hN hsz hP hD hA hS hin ls hl
  generalize va_A (wbALL K g z0 y0) sz = A at hD hA hS hN ⊢
  have hiX5 : ∀ w ∈ u_ws RX5 TX5 4, w ∈ (bw (Cond.code yX8_write cX8_write 5 (some .int))) := fun w h => bw_in (inlX5 w h)
  have hiX8 : ∀ w ∈ u_ws RX8 TX8 11, w ∈ (bw (Cond.code yX8_write cX8_write 5 (some .int))) := fun w h => bw_in (inlX8 w h)
  have L46_0 : ∀ (n : Nat), ∀ (n46_0 : Int32) (n46_1 : Int32) (q46_Z : Nat → St), fX8_write_46 y0 n n46_0 n46_1 q46_Z = some ((q_, z_)) → ∀ (H : Heap) (locs : List Loc), va_P D vwCl (wbALL K g q46_Z y0) H → va_D A (wbALL K g q46_Z y0) → va_S A s.heap H locs → ∀ (ls : Array Slot), lv_has ls 5 [(0, .ref (g 0 0)), (1, .int n46_0), (3, .ref (g 4 0)), (4, .int n46_1)] → W p l e rmX8_write s m ([.ref (g 0 0), .int x1, .int x2] : List Value).toArray below meth c H locs 0 0 (MQ below (zQ (some (.int q_)) D A (wbALL K g z_ y0)) ([.ref (g 0 0), .int x1, .int x2] : List Value).toArray s 0 0 A) (F0 m 46 ls []) := by
    intro n
    induction n with
    | zero =>
      intro n46_0 n46_1 q46_Z hf
      rw [fX8_write_46] at hf
      cases hf
    | succ n ih =>
      intro n46_0 n46_1 q46_Z hf H locs hP hD hS ls hl
      rw [fX8_write_46] at hf
      refine lv_iload X.1 X.2.1 dX8_write_46 (lv_at hl 3 rfl) ?_
      refine lv_aload_n X.1 X.2.1 dX8_write_48 rfl (lv_at hl 2 rfl) ?_
      refine z_get X hK hP hiX5 9 rfl rfl 2 (by decide) (bw_in W31_11) rfl dX8_write_49 ?_
      refine lv_icmp_ge (tgt := 77) X.1 X.2.1 dX8_write_52 (by decide) (fun c10 => ?_) (fun c10 => ?_)
      · have hf := ite_t hf c10
        refine lv_aload_n X.1 X.2.1 dX8_write_77 rfl (lv_at hl 2 rfl) ?_
        refine z_get X hK hP hiX5 9 rfl rfl 2 (by decide) (bw_in W31_11) rfl dX8_write_78 ?_
        obtain ⟨rfl, rfl⟩ := z_inj2 hf
        exact z_iret X hr hlk hP hD hS dX8_write_81
      · have hf := ite_f hf c10
        refine lv_aload_n X.1 X.2.1 dX8_write_55 rfl (lv_at hl 2 rfl) ?_
        refine lv_iload X.1 X.2.1 dX8_write_56 (lv_at hl 3 rfl) ?_
        refine lv_aload_n X.1 X.2.1 dX8_write_58 rfl (lv_at hl 0 rfl) ?_
        refine z_get X hK hP hiX8 0 rfl rfl 3 (by decide) (bw_in W1_23) rfl dX8_write_59 ?_
        refine lv_iload X.1 X.2.1 dX8_write_62 (lv_at hl 3 rfl) ?_
        refine lv_iload_n X.1 X.2.1 dX8_write_64 rfl (lv_at hl 1 rfl) ?_
        obtain ⟨r11, hc12, hf⟩ := bd1_e hf
        have hp13 : List.Perm (wbALL K g q46_Z y0) ((wbX2 K (g 8) (q46_Z 8) ++ (wbX4 K (g 8 0) (g 9) (q46_Z 9))) ++ ([0, 1, 2, 3, 4, 5, 6, 7, 10, 11, 12, 13, 14].map (bfALL K g q46_Z y0)).flatten) := by rw [asc2]; exact wbALL_perm [8, 9, 0, 1, 2, 3, 4, 5, 6, 7, 10, 11, 12, 13, 14] (by decide)
        refine z_V (n := 2) (As := [.int n46_1, .int n46_0]) (rest := [.int n46_1, .ref (g 4 0)]) (ci := 4) (q0 := 9) X hK hN (kX4_tell l D K (g 8) (g 9) (q46_Z 8) (q46_Z 9) _ n46_1 n46_0 r11 hc12) (bw_V W18_23 W19_0 W19_1 W1_22 W19_2) rfl ⟨rfl, rfl⟩ (by decide +kernel) rfl ⟨Nat.le_of_ble_eq_true rfl, Nat.le_of_ble_eq_true rfl⟩ (hP.perm hp13).lef (hD.perm hp13).lef rfl rfl (zj_perm (ws' := wbALL K g q46_Z y0) hP hD hS hA hp13 (by rw [asc2]; refine List.Perm.symm ?_; exact wbALL_perm [8, 9, 0, 1, 2, 3, 4, 5, 6, 7, 10, 11, 12, 13, 14] (by decide))) hS hl.1 rfl (Nat.le_of_ble_eq_true rfl) dX8_write_65 ⟨Nat.zero_le _, Nat.zero_le _⟩ rfl (fun H locs hP hD hS => ?_)
        obtain ⟨e14, hc15, hf⟩ := bd1_e hf
        obtain ⟨z16, ez16, hf⟩ := stp_e hf
        have hp17 : List.Perm (wbALL K g q46_Z y0) ((wbX5 K (g 4) (q46_Z 4)) ++ ([0, 1, 2, 3, 5, 6, 7, 8, 9, 10, 11, 12, 13, 14].map (bfALL K g q46_Z y0)).flatten) := wbALL_perm [4, 0, 1, 2, 3, 5, 6, 7, 8, 9, 10, 11, 12, 13, 14] (by decide)
        refine z_V (n := 2) (As := [.int n46_1, .int r11]) (rest := []) (ci := 5) (q0 := 0) X hK hN (kX5_store l D K (g 4) (q46_Z 4) _ n46_1 r11 e14 hc15) (bw_V W39_21 W39_22 W39_23 W2_22 W40_0) rfl ⟨rfl, rfl⟩ (by decide +kernel) rfl ⟨Nat.le_of_ble_eq_true rfl, Nat.le_of_ble_eq_true rfl⟩ (hP.perm hp17).lef (hD.perm hp17).lef rfl rfl (zj_perm (ws' := wbALL K g z16 y0) hP hD hS hA hp17 (by rw [ez16]; refine List.Perm.symm ?_; exact wbALL_perm [4, 0, 1, 2, 3, 5, 6, 7, 8, 9, 10, 11, 12, 13, 14] (by decide))) hS hl.1 rfl (Nat.le_of_ble_eq_true rfl) dX8_write_68 ⟨Nat.zero_le _, Nat.zero_le _⟩ rfl (fun H locs hP hD hS => ?_)
        obtain ⟨w18, ew18, hf⟩ := stp_e hf
        refine lv_iinc (v := w18) (lv' := [(4, .int w18), (0, .ref (g 0 0)), (1, .int n46_0), (3, .ref (g 4 0))]) X.1 X.2.1 dX8_write_71 hl (k := 3) rfl (by rw [ew18]; rfl) (by decide) rfl (fun ls hl => ?_)
        refine lv_goto (tgt := 46) X.1 X.2.1 dX8_write_74 (by decide) ?_
        exact ih _ _ _ hf _ _ hP hD hS _ (lv_sub hl [1, 2, 3, 0] rfl)
  have L46_1 : ∀ (n : Nat), ∀ (n46_0 : Int32) (n46_1 : Int32) (q46_Z : Nat → St), fX8_write_46_1 y0 n n46_0 n46_1 q46_Z = some ((q_, z_)) → ∀ (H : Heap) (locs : List Loc), va_P D vwCl (wbALL K g q46_Z y0) H → va_D A (wbALL K g q46_Z y0) → va_S A s.heap H locs → ∀ (ls : Array Slot), lv_has ls 5 [(0, .ref (g 0 0)), (1, .int n46_0), (3, .ref (g 5 0)), (4, .int n46_1)] → W p l e rmX8_write s m ([.ref (g 0 0), .int x1, .int x2] : List Value).toArray below meth c H locs 0 0 (MQ below (zQ (some (.int q_)) D A (wbALL K g z_ y0)) ([.ref (g 0 0), .int x1, .int x2] : List Value).toArray s 0 0 A) (F0 m 46 ls []) := by
    intro n
    induction n with
    | zero =>
      intro n46_0 n46_1 q46_Z hf
      rw [fX8_write_46_1] at hf
      cases hf
    | succ n ih =>
      intro n46_0 n46_1 q46_Z hf H locs hP hD hS ls hl
      rw [fX8_write_46_1] at hf
      refine lv_iload X.1 X.2.1 dX8_write_46 (lv_at hl 3 rfl) ?_
      refine lv_aload_n X.1 X.2.1 dX8_write_48 rfl (lv_at hl 2 rfl) ?_
      refine z_get X hK hP hiX5 11 rfl rfl 2 (by decide) (bw_in W31_11) rfl dX8_write_49 ?_
      refine lv_icmp_ge (tgt := 77) X.1 X.2.1 dX8_write_52 (by decide) (fun c26 => ?_) (fun c26 => ?_)
      · have hf := ite_t hf c26
        refine lv_aload_n X.1 X.2.1 dX8_write_77 rfl (lv_at hl 2 rfl) ?_
        refine z_get X hK hP hiX5 11 rfl rfl 2 (by decide) (bw_in W31_11) rfl dX8_write_78 ?_
        obtain ⟨rfl, rfl⟩ := z_inj2 hf
        exact z_iret X hr hlk hP hD hS dX8_write_81
      · have hf := ite_f hf c26
        refine lv_aload_n X.1 X.2.1 dX8_write_55 rfl (lv_at hl 2 rfl) ?_
        refine lv_iload X.1 X.2.1 dX8_write_56 (lv_at hl 3 rfl) ?_
        refine lv_aload_n X.1 X.2.1 dX8_write_58 rfl (lv_at hl 0 rfl) ?_
        refine z_get X hK hP hiX8 0 rfl rfl 3 (by decide) (bw_in W1_23) rfl dX8_write_59 ?_
        refine lv_iload X.1 X.2.1 dX8_write_62 (lv_at hl 3 rfl) ?_
        refine lv_iload_n X.1 X.2.1 dX8_write_64 rfl (lv_at hl 1 rfl) ?_
        obtain ⟨r27, hc28, hf⟩ := bd1_e hf
        have hp29 : List.Perm (wbALL K g q46_Z y0) ((wbX2 K (g 8) (q46_Z 8) ++ (wbX4 K (g 8 0) (g 9) (q46_Z 9))) ++ ([0, 1, 2, 3, 4, 5, 6, 7, 10, 11, 12, 13, 14].map (bfALL K g q46_Z y0)).flatten) := by rw [asc2]; exact wbALL_perm [8, 9, 0, 1, 2, 3, 4, 5, 6, 7, 10, 11, 12, 13, 14] (by decide)
        refine z_V (n := 2) (As := [.int n46_1, .int n46_0]) (rest := [.int n46_1, .ref (g 5 0)]) (ci := 4) (q0 := 9) X hK hN (kX4_tell l D K (g 8) (g 9) (q46_Z 8) (q46_Z 9) _ n46_1 n46_0 r27 hc28) (bw_V W18_23 W19_0 W19_1 W1_22 W19_2) rfl ⟨rfl, rfl⟩ (by decide +kernel) rfl ⟨Nat.le_of_ble_eq_true rfl, Nat.le_of_ble_eq_true rfl⟩ (hP.perm hp29).lef (hD.perm hp29).lef rfl rfl (zj_perm (ws' := wbALL K g q46_Z y0) hP hD hS hA hp29 (by rw [asc2]; refine List.Perm.symm ?_; exact wbALL_perm [8, 9, 0, 1, 2, 3, 4, 5, 6, 7, 10, 11, 12, 13, 14] (by decide))) hS hl.1 rfl (Nat.le_of_ble_eq_true rfl) dX8_write_65 ⟨Nat.zero_le _, Nat.zero_le _⟩ rfl (fun H locs hP hD hS => ?_)
        obtain ⟨e30, hc31, hf⟩ := bd1_e hf
        obtain ⟨z32, ez32, hf⟩ := stp_e hf
        have hp33 : List.Perm (wbALL K g q46_Z y0) ((wbX5 K (g 5) (q46_Z 5)) ++ ([0, 1, 2, 3, 4, 6, 7, 8, 9, 10, 11, 12, 13, 14].map (bfALL K g q46_Z y0)).flatten) := wbALL_perm [5, 0, 1, 2, 3, 4, 6, 7, 8, 9, 10, 11, 12, 13, 14] (by decide)
        refine z_V (n := 2) (As := [.int n46_1, .int r27]) (rest := []) (ci := 5) (q0 := 0) X hK hN (kX5_store l D K (g 5) (q46_Z 5) _ n46_1 r27 e30 hc31) (bw_V W39_21 W39_22 W39_23 W2_22 W40_0) rfl ⟨rfl, rfl⟩ (by decide +kernel) rfl ⟨Nat.le_of_ble_eq_true rfl, Nat.le_of_ble_eq_true rfl⟩ (hP.perm hp33).lef (hD.perm hp33).lef rfl rfl (zj_perm (ws' := wbALL K g z32 y0) hP hD hS hA hp33 (by rw [ez32]; refine List.Perm.symm ?_; exact wbALL_perm [5, 0, 1, 2, 3, 4, 6, 7, 8, 9, 10, 11, 12, 13, 14] (by decide))) hS hl.1 rfl (Nat.le_of_ble_eq_true rfl) dX8_write_68 ⟨Nat.zero_le _, Nat.zero_le _⟩ rfl (fun H locs hP hD hS => ?_)
        obtain ⟨w34, ew34, hf⟩ := stp_e hf
        refine lv_iinc (v := w34) (lv' := [(4, .int w34), (0, .ref (g 0 0)), (1, .int n46_0), (3, .ref (g 5 0))]) X.1 X.2.1 dX8_write_71 hl (k := 3) rfl (by rw [ew34]; rfl) (by decide) rfl (fun ls hl => ?_)
        refine lv_goto (tgt := 46) X.1 X.2.1 dX8_write_74 (by decide) ?_
        exact ih _ _ _ hf _ _ hP hD hS _ (lv_sub hl [1, 2, 3, 0] rfl)
  have L46_2 : ∀ (n : Nat), ∀ (n46_0 : Int32) (n46_1 : Int32) (q46_Z : Nat → St), fX8_write_46_2 y0 n n46_0 n46_1 q46_Z = some ((q_, z_)) → ∀ (H : Heap) (locs : List Loc), va_P D vwCl (wbALL K g q46_Z y0) H → va_D A (wbALL K g q46_Z y0) → va_S A s.heap H locs → ∀ (ls : Array Slot), lv_has ls 5 [(0, .ref (g 0 0)), (1, .int n46_0), (3, .ref (g 6 0)), (4, .int n46_1)] → W p l e rmX8_write s m ([.ref (g 0 0), .int x1, .int x2] : List Value).toArray below meth c H locs 0 0 (MQ below (zQ (some (.int q_)) D A (wbALL K g z_ y0)) ([.ref (g 0 0), .int x1, .int x2] : List Value).toArray s 0 0 A) (F0 m 46 ls []) := by
    intro n
    induction n with
    | zero =>
      intro n46_0 n46_1 q46_Z hf
      rw [fX8_write_46_2] at hf
      cases hf
    | succ n ih =>
      intro n46_0 n46_1 q46_Z hf H locs hP hD hS ls hl
      rw [fX8_write_46_2] at hf
      refine lv_iload X.1 X.2.1 dX8_write_46 (lv_at hl 3 rfl) ?_
      refine lv_aload_n X.1 X.2.1 dX8_write_48 rfl (lv_at hl 2 rfl) ?_
      refine z_get X hK hP hiX5 13 rfl rfl 2 (by decide) (bw_in W31_11) rfl dX8_write_49 ?_
      refine lv_icmp_ge (tgt := 77) X.1 X.2.1 dX8_write_52 (by decide) (fun c42 => ?_) (fun c42 => ?_)
      · have hf := ite_t hf c42
        refine lv_aload_n X.1 X.2.1 dX8_write_77 rfl (lv_at hl 2 rfl) ?_
        refine z_get X hK hP hiX5 13 rfl rfl 2 (by decide) (bw_in W31_11) rfl dX8_write_78 ?_
        obtain ⟨rfl, rfl⟩ := z_inj2 hf
        exact z_iret X hr hlk hP hD hS dX8_write_81
      · have hf := ite_f hf c42
        refine lv_aload_n X.1 X.2.1 dX8_write_55 rfl (lv_at hl 2 rfl) ?_
        refine lv_iload X.1 X.2.1 dX8_write_56 (lv_at hl 3 rfl) ?_
        refine lv_aload_n X.1 X.2.1 dX8_write_58 rfl (lv_at hl 0 rfl) ?_
        refine z_get X hK hP hiX8 0 rfl rfl 3 (by decide) (bw_in W1_23) rfl dX8_write_59 ?_
        refine lv_iload X.1 X.2.1 dX8_write_62 (lv_at hl 3 rfl) ?_
        refine lv_iload_n X.1 X.2.1 dX8_write_64 rfl (lv_at hl 1 rfl) ?_
        obtain ⟨r43, hc44, hf⟩ := bd1_e hf
        have hp45 : List.Perm (wbALL K g q46_Z y0) ((wbX2 K (g 8) (q46_Z 8) ++ (wbX4 K (g 8 0) (g 9) (q46_Z 9))) ++ ([0, 1, 2, 3, 4, 5, 6, 7, 10, 11, 12, 13, 14].map (bfALL K g q46_Z y0)).flatten) := by rw [asc2]; exact wbALL_perm [8, 9, 0, 1, 2, 3, 4, 5, 6, 7, 10, 11, 12, 13, 14] (by decide)
        refine z_V (n := 2) (As := [.int n46_1, .int n46_0]) (rest := [.int n46_1, .ref (g 6 0)]) (ci := 4) (q0 := 9) X hK hN (kX4_tell l D K (g 8) (g 9) (q46_Z 8) (q46_Z 9) _ n46_1 n46_0 r43 hc44) (bw_V W18_23 W19_0 W19_1 W1_22 W19_2) rfl ⟨rfl, rfl⟩ (by decide +kernel) rfl ⟨Nat.le_of_ble_eq_true rfl, Nat.le_of_ble_eq_true rfl⟩ (hP.perm hp45).lef (hD.perm hp45).lef rfl rfl (zj_perm (ws' := wbALL K g q46_Z y0) hP hD hS hA hp45 (by rw [asc2]; refine List.Perm.symm ?_; exact wbALL_perm [8, 9, 0, 1, 2, 3, 4, 5, 6, 7, 10, 11, 12, 13, 14] (by decide))) hS hl.1 rfl (Nat.le_of_ble_eq_true rfl) dX8_write_65 ⟨Nat.zero_le _, Nat.zero_le _⟩ rfl (fun H locs hP hD hS => ?_)
        obtain ⟨e46, hc47, hf⟩ := bd1_e hf
        obtain ⟨z48, ez48, hf⟩ := stp_e hf
        have hp49 : List.Perm (wbALL K g q46_Z y0) ((wbX5 K (g 6) (q46_Z 6)) ++ ([0, 1, 2, 3, 4, 5, 7, 8, 9, 10, 11, 12, 13, 14].map (bfALL K g q46_Z y0)).flatten) := wbALL_perm [6, 0, 1, 2, 3, 4, 5, 7, 8, 9, 10, 11, 12, 13, 14] (by decide)
        refine z_V (n := 2) (As := [.int n46_1, .int r43]) (rest := []) (ci := 5) (q0 := 0) X hK hN (kX5_store l D K (g 6) (q46_Z 6) _ n46_1 r43 e46 hc47) (bw_V W39_21 W39_22 W39_23 W2_22 W40_0) rfl ⟨rfl, rfl⟩ (by decide +kernel) rfl ⟨Nat.le_of_ble_eq_true rfl, Nat.le_of_ble_eq_true rfl⟩ (hP.perm hp49).lef (hD.perm hp49).lef rfl rfl (zj_perm (ws' := wbALL K g z48 y0) hP hD hS hA hp49 (by rw [ez48]; refine List.Perm.symm ?_; exact wbALL_perm [6, 0, 1, 2, 3, 4, 5, 7, 8, 9, 10, 11, 12, 13, 14] (by decide))) hS hl.1 rfl (Nat.le_of_ble_eq_true rfl) dX8_write_68 ⟨Nat.zero_le _, Nat.zero_le _⟩ rfl (fun H locs hP hD hS => ?_)
        obtain ⟨w50, ew50, hf⟩ := stp_e hf
        refine lv_iinc (v := w50) (lv' := [(4, .int w50), (0, .ref (g 0 0)), (1, .int n46_0), (3, .ref (g 6 0))]) X.1 X.2.1 dX8_write_71 hl (k := 3) rfl (by rw [ew50]; rfl) (by decide) rfl (fun ls hl => ?_)
        refine lv_goto (tgt := 46) X.1 X.2.1 dX8_write_74 (by decide) ?_
        exact ih _ _ _ hf _ _ hP hD hS _ (lv_sub hl [1, 2, 3, 0] rfl)
  have L46_3 : ∀ (n : Nat), ∀ (n46_0 : Int32) (n46_1 : Int32) (q46_Z : Nat → St), fX8_write_46_3 y0 n n46_0 n46_1 q46_Z = some ((q_, z_)) → ∀ (H : Heap) (locs : List Loc), va_P D vwCl (wbALL K g q46_Z y0) H → va_D A (wbALL K g q46_Z y0) → va_S A s.heap H locs → ∀ (ls : Array Slot), lv_has ls 5 [(0, .ref (g 0 0)), (1, .int n46_0), (3, .ref (g 7 0)), (4, .int n46_1)] → W p l e rmX8_write s m ([.ref (g 0 0), .int x1, .int x2] : List Value).toArray below meth c H locs 0 0 (MQ below (zQ (some (.int q_)) D A (wbALL K g z_ y0)) ([.ref (g 0 0), .int x1, .int x2] : List Value).toArray s 0 0 A) (F0 m 46 ls []) := by
    intro n
    induction n with
    | zero =>
      intro n46_0 n46_1 q46_Z hf
      rw [fX8_write_46_3] at hf
      cases hf
    | succ n ih =>
      intro n46_0 n46_1 q46_Z hf H locs hP hD hS ls hl
      rw [fX8_write_46_3] at hf
      refine lv_iload X.1 X.2.1 dX8_write_46 (lv_at hl 3 rfl) ?_
      refine lv_aload_n X.1 X.2.1 dX8_write_48 rfl (lv_at hl 2 rfl) ?_
      refine z_get X hK hP hiX5 15 rfl rfl 2 (by decide) (bw_in W31_11) rfl dX8_write_49 ?_
      refine lv_icmp_ge (tgt := 77) X.1 X.2.1 dX8_write_52 (by decide) (fun c58 => ?_) (fun c58 => ?_)
      · have hf := ite_t hf c58
        refine lv_aload_n X.1 X.2.1 dX8_write_77 rfl (lv_at hl 2 rfl) ?_
        refine z_get X hK hP hiX5 15 rfl rfl 2 (by decide) (bw_in W31_11) rfl dX8_write_78 ?_
        obtain ⟨rfl, rfl⟩ := z_inj2 hf
        exact z_iret X hr hlk hP hD hS dX8_write_81
      · have hf := ite_f hf c58
        refine lv_aload_n X.1 X.2.1 dX8_write_55 rfl (lv_at hl 2 rfl) ?_
        refine lv_iload X.1 X.2.1 dX8_write_56 (lv_at hl 3 rfl) ?_
        refine lv_aload_n X.1 X.2.1 dX8_write_58 rfl (lv_at hl 0 rfl) ?_
        refine z_get X hK hP hiX8 0 rfl rfl 3 (by decide) (bw_in W1_23) rfl dX8_write_59 ?_
        refine lv_iload X.1 X.2.1 dX8_write_62 (lv_at hl 3 rfl) ?_
        refine lv_iload_n X.1 X.2.1 dX8_write_64 rfl (lv_at hl 1 rfl) ?_
        obtain ⟨r59, hc60, hf⟩ := bd1_e hf
        have hp61 : List.Perm (wbALL K g q46_Z y0) ((wbX2 K (g 8) (q46_Z 8) ++ (wbX4 K (g 8 0) (g 9) (q46_Z 9))) ++ ([0, 1, 2, 3, 4, 5, 6, 7, 10, 11, 12, 13, 14].map (bfALL K g q46_Z y0)).flatten) := by rw [asc2]; exact wbALL_perm [8, 9, 0, 1, 2, 3, 4, 5, 6, 7, 10, 11, 12, 13, 14] (by decide)
        refine z_V (n := 2) (As := [.int n46_1, .int n46_0]) (rest := [.int n46_1, .ref (g 7 0)]) (ci := 4) (q0 := 9) X hK hN (kX4_tell l D K (g 8) (g 9) (q46_Z 8) (q46_Z 9) _ n46_1 n46_0 r59 hc60) (bw_V W18_23 W19_0 W19_1 W1_22 W19_2) rfl ⟨rfl, rfl⟩ (by decide +kernel) rfl ⟨Nat.le_of_ble_eq_true rfl, Nat.le_of_ble_eq_true rfl⟩ (hP.perm hp61).lef (hD.perm hp61).lef rfl rfl (zj_perm (ws' := wbALL K g q46_Z y0) hP hD hS hA hp61 (by rw [asc2]; refine List.Perm.symm ?_; exact wbALL_perm [8, 9, 0, 1, 2, 3, 4, 5, 6, 7, 10, 11, 12, 13, 14] (by decide))) hS hl.1 rfl (Nat.le_of_ble_eq_true rfl) dX8_write_65 ⟨Nat.zero_le _, Nat.zero_le _⟩ rfl (fun H locs hP hD hS => ?_)
        obtain ⟨e62, hc63, hf⟩ := bd1_e hf
        obtain ⟨z64, ez64, hf⟩ := stp_e hf
        have hp65 : List.Perm (wbALL K g q46_Z y0) ((wbX5 K (g 7) (q46_Z 7)) ++ ([0, 1, 2, 3, 4, 5, 6, 8, 9, 10, 11, 12, 13, 14].map (bfALL K g q46_Z y0)).flatten) := wbALL_perm [7, 0, 1, 2, 3, 4, 5, 6, 8, 9, 10, 11, 12, 13, 14] (by decide)
        refine z_V (n := 2) (As := [.int n46_1, .int r59]) (rest := []) (ci := 5) (q0 := 0) X hK hN (kX5_store l D K (g 7) (q46_Z 7) _ n46_1 r59 e62 hc63) (bw_V W39_21 W39_22 W39_23 W2_22 W40_0) rfl ⟨rfl, rfl⟩ (by decide +kernel) rfl ⟨Nat.le_of_ble_eq_true rfl, Nat.le_of_ble_eq_true rfl⟩ (hP.perm hp65).lef (hD.perm hp65).lef rfl rfl (zj_perm (ws' := wbALL K g z64 y0) hP hD hS hA hp65 (by rw [ez64]; refine List.Perm.symm ?_; exact wbALL_perm [7, 0, 1, 2, 3, 4, 5, 6, 8, 9, 10, 11, 12, 13, 14] (by decide))) hS hl.1 rfl (Nat.le_of_ble_eq_true rfl) dX8_write_68 ⟨Nat.zero_le _, Nat.zero_le _⟩ rfl (fun H locs hP hD hS => ?_)
        obtain ⟨w66, ew66, hf⟩ := stp_e hf
        refine lv_iinc (v := w66) (lv' := [(4, .int w66), (0, .ref (g 0 0)), (1, .int n46_0), (3, .ref (g 7 0))]) X.1 X.2.1 dX8_write_71 hl (k := 3) rfl (by rw [ew66]; rfl) (by decide) rfl (fun ls hl => ?_)
        refine lv_goto (tgt := 46) X.1 X.2.1 dX8_write_74 (by decide) ?_
        exact ih _ _ _ hf _ _ hP hD hS _ (lv_sub hl [1, 2, 3, 0] rfl)
  rw [fX8_write] at hf
  refine lv_iload_n X.1 X.2.1 dX8_write_0 rfl (lv_at hl 1 rfl) ?_
  refine lv_if_lt (tgt := 16) X.1 X.2.1 dX8_write_1 (by decide) (fun c1 => ?_) (fun c1 => ?_)
  · have hf := ite_t hf c1
    refine lv_bipush (v := -2) X.1 X.2.1 dX8_write_16 (by decide) ?_
    obtain ⟨rfl, rfl⟩ := z_inj2 hf
    exact z_iret X hr hlk hP hD hS dX8_write_18
  · have hf := ite_f hf c1
    refine lv_iload_n X.1 X.2.1 dX8_write_4 rfl (lv_at hl 1 rfl) ?_
    refine lv_iconst (v := 4) X.1 X.2.1 dX8_write_5 (by decide) ?_
    refine lv_icmp_ge (tgt := 16) X.1 X.2.1 dX8_write_6 (by decide) (fun c2 => ?_) (fun c2 => ?_)
    · have hf := ite_t hf c2
      refine lv_bipush (v := -2) X.1 X.2.1 dX8_write_16 (by decide) ?_
      obtain ⟨rfl, rfl⟩ := z_inj2 hf
      exact z_iret X hr hlk hP hD hS dX8_write_18
    · have hf := ite_f hf c2
      refine lv_iload_n X.1 X.2.1 dX8_write_9 rfl (lv_at hl 2 rfl) ?_
      obtain ⟨r3, hc4, hf⟩ := bd1_e hf
      refine z_S (n := 1) (As := [.int x2]) (rest := []) X hK hN (kX8_noSuchSheet l D K _ x2 r3 hc4) (bw_S W31_13 W31_14 W1_2 W31_15) rfl ⟨rfl, rfl⟩ (by decide +kernel) rfl ⟨Nat.le_of_ble_eq_true rfl, Nat.le_of_ble_eq_true rfl⟩ (fun _ _ h => by simp at h) ⟨fun _ _ _ _ h => by simp at h, fun _ _ h => by simp at h⟩ (zj_none hP hD hS hA) hS hl.1 rfl (Nat.le_of_ble_eq_true rfl) dX8_write_10 ⟨Nat.zero_le _, Nat.zero_le _⟩ rfl (fun H locs hP hD hS => ?_)
      refine lv_if_eq (tgt := 19) X.1 X.2.1 dX8_write_13 (by decide) (fun c5 => ?_) (fun c5 => ?_)
      · have hf := ite_t hf c5
        refine lv_aload_n X.1 X.2.1 dX8_write_19 rfl (lv_at hl 0 rfl) ?_
        refine z_get X hK hP hiX8 0 rfl rfl 1 (by decide) (bw_in W1_15) rfl dX8_write_20 ?_
        refine lv_iload_n X.1 X.2.1 dX8_write_23 rfl (lv_at hl 2 rfl) ?_
        by_cases c6 : x2 = 0
        · have hf := ite_t hf c6
          refine z_aald X hK hP 2 3 rfl rfl (by rw [c6]; exact vp_lit _ _ (by decide)) (by rw [c6] <;> rfl) dX8_write_24 ?_
          refine lv_astore_n (lv' := [(3, .ref (g 4 0)), (0, .ref (g 0 0)), (1, .int x1), (2, .int x2)]) X.1 X.2.1 dX8_write_25 rfl hl (by decide) rfl (fun ls hl => ?_)
          refine lv_aload_n X.1 X.2.1 dX8_write_26 rfl (lv_at hl 0 rfl) ?_
          refine z_get X hK hP hiX5 9 rfl rfl 0 (by decide) (bw_in W31_10) rfl dX8_write_27 ?_
          refine lv_if_eq (tgt := 39) X.1 X.2.1 dX8_write_30 (by decide) (fun c7 => ?_) (fun c7 => ?_)
          · have hf := ite_t hf c7
            refine lv_aload_n X.1 X.2.1 dX8_write_39 rfl (lv_at hl 1 rfl) ?_
            obtain ⟨z8, hc9, hf⟩ := bd1_e hf
            refine z_V (n := 0) (As := []) (rest := []) (ci := 8) (q0 := 0) X hK hN (kX8_freshen l D K g z0 y0 _ z8 hc9) (bw_V W11_14 W11_15 W11_16 W1_2 W11_17) rfl ⟨rfl, rfl⟩ (by decide +kernel) rfl ⟨Nat.le_of_ble_eq_true rfl, Nat.le_of_ble_eq_true rfl⟩ hP hD rfl rfl (zj_same hD hS hA) hS hl.1 rfl (Nat.le_of_ble_eq_true rfl) dX8_write_40 ⟨Nat.zero_le _, Nat.zero_le _⟩ rfl (fun H locs hP hD hS => ?_)
            refine lv_iconst (v := 0) X.1 X.2.1 dX8_write_43 (by decide) ?_
            refine lv_istore (lv' := [(4, .int 0), (3, .ref (g 4 0)), (0, .ref (g 0 0)), (1, .int x1), (2, .int x2)]) X.1 X.2.1 dX8_write_44 hl (by decide) rfl (fun ls hl => ?_)
            exact L46_0  _ _ _ _ hf _ _ hP hD hS _ (lv_sub hl [2, 3, 1, 0] rfl)
          · have hf := ite_f hf c7
            refine lv_aload_n X.1 X.2.1 dX8_write_33 rfl (lv_at hl 1 rfl) ?_
            refine lv_iconst (v := 1) X.1 X.2.1 dX8_write_34 (by decide) ?_
            obtain ⟨r19, z20, hc21, hf⟩ := bd2_e hf
            refine z_V (n := 1) (As := [.int 1]) (rest := []) (ci := 8) (q0 := 0) X hK hN (kX8_find l D K g z0 y0 _ 1 r19 z20 hc21) (bw_V W31_16 W31_17 W31_18 W1_2 W31_19) rfl ⟨rfl, rfl⟩ (by decide +kernel) rfl ⟨Nat.le_of_ble_eq_true rfl, Nat.le_of_ble_eq_true rfl⟩ hP hD rfl rfl (zj_same hD hS hA) hS hl.1 rfl (Nat.le_of_ble_eq_true rfl) dX8_write_35 ⟨Nat.zero_le _, Nat.zero_le _⟩ rfl (fun H locs hP hD hS => ?_)
            obtain ⟨rfl, rfl⟩ := z_inj2 hf
            exact z_iret X hr hlk hP hD hS dX8_write_38
        have hf := ite_f hf c6
        by_cases c22 : x2 = 1
        · have hf := ite_t hf c22
          refine z_aald X hK hP 2 3 rfl rfl (by rw [c22]; exact vp_lit _ _ (by decide)) (by rw [c22] <;> rfl) dX8_write_24 ?_
          refine lv_astore_n (lv' := [(3, .ref (g 5 0)), (0, .ref (g 0 0)), (1, .int x1), (2, .int x2)]) X.1 X.2.1 dX8_write_25 rfl hl (by decide) rfl (fun ls hl => ?_)
          refine lv_aload_n X.1 X.2.1 dX8_write_26 rfl (lv_at hl 0 rfl) ?_
          refine z_get X hK hP hiX5 11 rfl rfl 0 (by decide) (bw_in W31_10) rfl dX8_write_27 ?_
          refine lv_if_eq (tgt := 39) X.1 X.2.1 dX8_write_30 (by decide) (fun c23 => ?_) (fun c23 => ?_)
          · have hf := ite_t hf c23
            refine lv_aload_n X.1 X.2.1 dX8_write_39 rfl (lv_at hl 1 rfl) ?_
            obtain ⟨z24, hc25, hf⟩ := bd1_e hf
            refine z_V (n := 0) (As := []) (rest := []) (ci := 8) (q0 := 0) X hK hN (kX8_freshen l D K g z0 y0 _ z24 hc25) (bw_V W11_14 W11_15 W11_16 W1_2 W11_17) rfl ⟨rfl, rfl⟩ (by decide +kernel) rfl ⟨Nat.le_of_ble_eq_true rfl, Nat.le_of_ble_eq_true rfl⟩ hP hD rfl rfl (zj_same hD hS hA) hS hl.1 rfl (Nat.le_of_ble_eq_true rfl) dX8_write_40 ⟨Nat.zero_le _, Nat.zero_le _⟩ rfl (fun H locs hP hD hS => ?_)
            refine lv_iconst (v := 0) X.1 X.2.1 dX8_write_43 (by decide) ?_
            refine lv_istore (lv' := [(4, .int 0), (3, .ref (g 5 0)), (0, .ref (g 0 0)), (1, .int x1), (2, .int x2)]) X.1 X.2.1 dX8_write_44 hl (by decide) rfl (fun ls hl => ?_)
            exact L46_1  _ _ _ _ hf _ _ hP hD hS _ (lv_sub hl [2, 3, 1, 0] rfl)
          · have hf := ite_f hf c23
            refine lv_aload_n X.1 X.2.1 dX8_write_33 rfl (lv_at hl 1 rfl) ?_
            refine lv_iconst (v := 1) X.1 X.2.1 dX8_write_34 (by decide) ?_
            obtain ⟨r35, z36, hc37, hf⟩ := bd2_e hf
            refine z_V (n := 1) (As := [.int 1]) (rest := []) (ci := 8) (q0 := 0) X hK hN (kX8_find l D K g z0 y0 _ 1 r35 z36 hc37) (bw_V W31_16 W31_17 W31_18 W1_2 W31_19) rfl ⟨rfl, rfl⟩ (by decide +kernel) rfl ⟨Nat.le_of_ble_eq_true rfl, Nat.le_of_ble_eq_true rfl⟩ hP hD rfl rfl (zj_same hD hS hA) hS hl.1 rfl (Nat.le_of_ble_eq_true rfl) dX8_write_35 ⟨Nat.zero_le _, Nat.zero_le _⟩ rfl (fun H locs hP hD hS => ?_)
            obtain ⟨rfl, rfl⟩ := z_inj2 hf
            exact z_iret X hr hlk hP hD hS dX8_write_38
        have hf := ite_f hf c22
        by_cases c38 : x2 = 2
        · have hf := ite_t hf c38
          refine z_aald X hK hP 2 3 rfl rfl (by rw [c38]; exact vp_lit _ _ (by decide)) (by rw [c38] <;> rfl) dX8_write_24 ?_
          refine lv_astore_n (lv' := [(3, .ref (g 6 0)), (0, .ref (g 0 0)), (1, .int x1), (2, .int x2)]) X.1 X.2.1 dX8_write_25 rfl hl (by decide) rfl (fun ls hl => ?_)
          refine lv_aload_n X.1 X.2.1 dX8_write_26 rfl (lv_at hl 0 rfl) ?_
          refine z_get X hK hP hiX5 13 rfl rfl 0 (by decide) (bw_in W31_10) rfl dX8_write_27 ?_
          refine lv_if_eq (tgt := 39) X.1 X.2.1 dX8_write_30 (by decide) (fun c39 => ?_) (fun c39 => ?_)
          · have hf := ite_t hf c39
            refine lv_aload_n X.1 X.2.1 dX8_write_39 rfl (lv_at hl 1 rfl) ?_
            obtain ⟨z40, hc41, hf⟩ := bd1_e hf
            refine z_V (n := 0) (As := []) (rest := []) (ci := 8) (q0 := 0) X hK hN (kX8_freshen l D K g z0 y0 _ z40 hc41) (bw_V W11_14 W11_15 W11_16 W1_2 W11_17) rfl ⟨rfl, rfl⟩ (by decide +kernel) rfl ⟨Nat.le_of_ble_eq_true rfl, Nat.le_of_ble_eq_true rfl⟩ hP hD rfl rfl (zj_same hD hS hA) hS hl.1 rfl (Nat.le_of_ble_eq_true rfl) dX8_write_40 ⟨Nat.zero_le _, Nat.zero_le _⟩ rfl (fun H locs hP hD hS => ?_)
            refine lv_iconst (v := 0) X.1 X.2.1 dX8_write_43 (by decide) ?_
            refine lv_istore (lv' := [(4, .int 0), (3, .ref (g 6 0)), (0, .ref (g 0 0)), (1, .int x1), (2, .int x2)]) X.1 X.2.1 dX8_write_44 hl (by decide) rfl (fun ls hl => ?_)
            exact L46_2  _ _ _ _ hf _ _ hP hD hS _ (lv_sub hl [2, 3, 1, 0] rfl)
          · have hf := ite_f hf c39
            refine lv_aload_n X.1 X.2.1 dX8_write_33 rfl (lv_at hl 1 rfl) ?_
            refine lv_iconst (v := 1) X.1 X.2.1 dX8_write_34 (by decide) ?_
            obtain ⟨r51, z52, hc53, hf⟩ := bd2_e hf
            refine z_V (n := 1) (As := [.int 1]) (rest := []) (ci := 8) (q0 := 0) X hK hN (kX8_find l D K g z0 y0 _ 1 r51 z52 hc53) (bw_V W31_16 W31_17 W31_18 W1_2 W31_19) rfl ⟨rfl, rfl⟩ (by decide +kernel) rfl ⟨Nat.le_of_ble_eq_true rfl, Nat.le_of_ble_eq_true rfl⟩ hP hD rfl rfl (zj_same hD hS hA) hS hl.1 rfl (Nat.le_of_ble_eq_true rfl) dX8_write_35 ⟨Nat.zero_le _, Nat.zero_le _⟩ rfl (fun H locs hP hD hS => ?_)
            obtain ⟨rfl, rfl⟩ := z_inj2 hf
            exact z_iret X hr hlk hP hD hS dX8_write_38
        have hf := ite_f hf c38
        by_cases c54 : x2 = 3
        · have hf := ite_t hf c54
          refine z_aald X hK hP 2 3 rfl rfl (by rw [c54]; exact vp_lit _ _ (by decide)) (by rw [c54] <;> rfl) dX8_write_24 ?_
          refine lv_astore_n (lv' := [(3, .ref (g 7 0)), (0, .ref (g 0 0)), (1, .int x1), (2, .int x2)]) X.1 X.2.1 dX8_write_25 rfl hl (by decide) rfl (fun ls hl => ?_)
          refine lv_aload_n X.1 X.2.1 dX8_write_26 rfl (lv_at hl 0 rfl) ?_
          refine z_get X hK hP hiX5 15 rfl rfl 0 (by decide) (bw_in W31_10) rfl dX8_write_27 ?_
          refine lv_if_eq (tgt := 39) X.1 X.2.1 dX8_write_30 (by decide) (fun c55 => ?_) (fun c55 => ?_)
          · have hf := ite_t hf c55
            refine lv_aload_n X.1 X.2.1 dX8_write_39 rfl (lv_at hl 1 rfl) ?_
            obtain ⟨z56, hc57, hf⟩ := bd1_e hf
            refine z_V (n := 0) (As := []) (rest := []) (ci := 8) (q0 := 0) X hK hN (kX8_freshen l D K g z0 y0 _ z56 hc57) (bw_V W11_14 W11_15 W11_16 W1_2 W11_17) rfl ⟨rfl, rfl⟩ (by decide +kernel) rfl ⟨Nat.le_of_ble_eq_true rfl, Nat.le_of_ble_eq_true rfl⟩ hP hD rfl rfl (zj_same hD hS hA) hS hl.1 rfl (Nat.le_of_ble_eq_true rfl) dX8_write_40 ⟨Nat.zero_le _, Nat.zero_le _⟩ rfl (fun H locs hP hD hS => ?_)
            refine lv_iconst (v := 0) X.1 X.2.1 dX8_write_43 (by decide) ?_
            refine lv_istore (lv' := [(4, .int 0), (3, .ref (g 7 0)), (0, .ref (g 0 0)), (1, .int x1), (2, .int x2)]) X.1 X.2.1 dX8_write_44 hl (by decide) rfl (fun ls hl => ?_)
            exact L46_3  _ _ _ _ hf _ _ hP hD hS _ (lv_sub hl [2, 3, 1, 0] rfl)
          · have hf := ite_f hf c55
            refine lv_aload_n X.1 X.2.1 dX8_write_33 rfl (lv_at hl 1 rfl) ?_
            refine lv_iconst (v := 1) X.1 X.2.1 dX8_write_34 (by decide) ?_
            obtain ⟨r67, z68, hc69, hf⟩ := bd2_e hf
            refine z_V (n := 1) (As := [.int 1]) (rest := []) (ci := 8) (q0 := 0) X hK hN (kX8_find l D K g z0 y0 _ 1 r67 z68 hc69) (bw_V W31_16 W31_17 W31_18 W1_2 W31_19) rfl ⟨rfl, rfl⟩ (by decide +kernel) rfl ⟨Nat.le_of_ble_eq_true rfl, Nat.le_of_ble_eq_true rfl⟩ hP hD rfl rfl (zj_same hD hS hA) hS hl.1 rfl (Nat.le_of_ble_eq_true rfl) dX8_write_35 ⟨Nat.zero_le _, Nat.zero_le _⟩ rfl (fun H locs hP hD hS => ?_)
            obtain ⟨rfl, rfl⟩ := z_inj2 hf
            exact z_iret X hr hlk hP hD hS dX8_write_38
        have hf := ite_f hf c54
        cases hf
      · have hf := ite_f hf c5
        refine lv_bipush (v := -2) X.1 X.2.1 dX8_write_16 (by decide) ?_
        obtain ⟨rfl, rfl⟩ := z_inj2 hf
        exact z_iret X hr hlk hP hD hS dX8_write_18
