abbrev rmX8_count : Room := { frames := 5, cells := 0, slots := 0, locals := 118 }
set_option maxHeartbeats 4000000 in
set_option maxRecDepth 100000 in
theorem kX8_count (l : Launch) (D : va_G) (K : Nat → ClassId) (g : Nat → Nat → Nat) (z0 : Nat → St) (y0 : Nat → Lt) (sz : Nat) (x1 : Int32) (q_ : Int32) (z_ : Nat → St) (hf : fX8_count z0 y0 x1 = some (q_, z_)) : Met l yX8_count (bw (Cond.code yX8_count cX8_count 2 (some .int))) rmX8_count (va_Pc [.ref (g 0 0), .int x1] (zB D K sz (wbALL K g z0 y0))) (zQ (some (.int q_)) D (va_A (wbALL K g z0 y0) sz) (wbALL K g z_ y0)) 0 0 (va_A (wbALL K g z0 y0) sz) := by
  refine z_of (cc := cX8_count) (maxL := 2) (ret := (some .int)) (own := RX8) (lv := [(0, .ref (g 0 0)), (1, .int x1)]) (by decide) rfl rfl (Nat.le_of_ble_eq_true rfl) rfl ?_
  intro p e s m below meth c X hr hlk hK hN hsz hP hD hA hS hin ls hl
  generalize va_A (wbALL K g z0 y0) sz = A at hD hA hS hN ⊢
  have hiX2 : ∀ w ∈ u_ws RX2 TX2 14, w ∈ (bw (Cond.code yX8_count cX8_count 2 (some .int))) := fun w h => bw_in (inlX2 w h)
  have hiX6 : ∀ w ∈ u_ws RX6 TX6 3, w ∈ (bw (Cond.code yX8_count cX8_count 2 (some .int))) := fun w h => bw_in (inlX6 w h)
  have hiX7 : ∀ w ∈ u_ws RX7 TX7 4, w ∈ (bw (Cond.code yX8_count cX8_count 2 (some .int))) := fun w h => bw_in (inlX7 w h)
  have hiX8 : ∀ w ∈ u_ws RX8 TX8 11, w ∈ (bw (Cond.code yX8_count cX8_count 2 (some .int))) := fun w h => bw_in (inlX8 w h)
  rw [fX8_count] at hf
  refine lv_iload_n X.1 X.2.1 dX8_count_0 rfl (lv_at hl 1 rfl) ?_
  refine lv_if_lt (tgt := 10) X.1 X.2.1 dX8_count_1 (by decide) (fun c1 => ?_) (fun c1 => ?_)
  · have hf := ite_t hf c1
    refine lv_bipush (v := -2) X.1 X.2.1 dX8_count_10 (by decide) ?_
    obtain ⟨rfl, rfl⟩ := z_inj2 hf
    exact z_iret X hr hlk hP hD hS dX8_count_12
  · have hf := ite_f hf c1
    refine lv_iload_n X.1 X.2.1 dX8_count_4 rfl (lv_at hl 1 rfl) ?_
    refine lv_bipush (v := 9) X.1 X.2.1 dX8_count_5 (by decide) ?_
    refine lv_icmp_lt (tgt := 13) X.1 X.2.1 dX8_count_7 (by decide) (fun c2 => ?_) (fun c2 => ?_)
    · have hf := ite_t hf c2
      refine lv_aload_n X.1 X.2.1 dX8_count_13 rfl (lv_at hl 0 rfl) ?_
      obtain ⟨z3, hc4, hf⟩ := bd1_e hf
      refine z_V (n := 0) (As := []) (rest := []) (ci := 8) (q0 := 0) X hK hN (kX8_freshen l D K g z0 y0 _ z3 hc4) (bw_V W11_14 W11_15 W11_16 W1_2 W11_17) rfl ⟨rfl, rfl⟩ (by decide +kernel) rfl ⟨Nat.le_of_ble_eq_true rfl, Nat.le_of_ble_eq_true rfl⟩ hP hD rfl rfl (zj_same hD hS hA) hS hl.1 rfl (Nat.le_of_ble_eq_true rfl) dX8_count_14 ⟨Nat.zero_le _, Nat.zero_le _⟩ rfl (fun H locs hP hD hS => ?_)
      refine lv_iload_n X.1 X.2.1 dX8_count_17 rfl (lv_at hl 1 rfl) ?_
      by_cases c5 : x1 = 0
      · have hf := ite_t hf c5
        refine lv_tableIn (tgt := 68) X.1 X.2.1 dX8_count_18 (by rw [c5]; decide) (by rw [c5]; decide) (by rw [c5]; rfl) (by decide) ?_
        refine lv_aload_n X.1 X.2.1 dX8_count_68 rfl (lv_at hl 0 rfl) ?_
        refine z_get X hK hP hiX8 0 rfl rfl 2 (by decide) (bw_in W1_19) rfl dX8_count_69 ?_
        refine z_get X hK hP hiX2 17 rfl rfl 2 (by decide) (bw_in W16_4) rfl dX8_count_72 ?_
        obtain ⟨rfl, rfl⟩ := z_inj2 hf
        exact z_iret X hr hlk hP hD hS dX8_count_75
      have hf := ite_f hf c5
      by_cases c6 : x1 = 1
      · have hf := ite_t hf c6
        refine lv_tableIn (tgt := 76) X.1 X.2.1 dX8_count_18 (by rw [c6]; decide) (by rw [c6]; decide) (by rw [c6]; rfl) (by decide) ?_
        refine lv_aload_n X.1 X.2.1 dX8_count_76 rfl (lv_at hl 0 rfl) ?_
        refine z_get X hK hP hiX8 0 rfl rfl 2 (by decide) (bw_in W1_19) rfl dX8_count_77 ?_
        refine z_get X hK hP hiX2 17 rfl rfl 3 (by decide) (bw_in W17_7) rfl dX8_count_80 ?_
        obtain ⟨rfl, rfl⟩ := z_inj2 hf
        exact z_iret X hr hlk hP hD hS dX8_count_83
      have hf := ite_f hf c6
      by_cases c7 : x1 = 2
      · have hf := ite_t hf c7
        refine lv_tableIn (tgt := 84) X.1 X.2.1 dX8_count_18 (by rw [c7]; decide) (by rw [c7]; decide) (by rw [c7]; rfl) (by decide) ?_
        refine lv_aload_n X.1 X.2.1 dX8_count_84 rfl (lv_at hl 0 rfl) ?_
        refine z_get X hK hP hiX8 0 rfl rfl 2 (by decide) (bw_in W1_19) rfl dX8_count_85 ?_
        refine z_get X hK hP hiX2 17 rfl rfl 4 (by decide) (bw_in W17_20) rfl dX8_count_88 ?_
        obtain ⟨rfl, rfl⟩ := z_inj2 hf
        exact z_iret X hr hlk hP hD hS dX8_count_91
      have hf := ite_f hf c7
      by_cases c8 : x1 = 3
      · have hf := ite_t hf c8
        refine lv_tableIn (tgt := 113) X.1 X.2.1 dX8_count_18 (by rw [c8]; decide) (by rw [c8]; decide) (by rw [c8]; rfl) (by decide) ?_
        refine lv_aload_n X.1 X.2.1 dX8_count_113 rfl (lv_at hl 0 rfl) ?_
        refine z_get X hK hP hiX8 0 rfl rfl 0 (by decide) (bw_in W1_13) rfl dX8_count_114 ?_
        refine lv_iload_n X.1 X.2.1 dX8_count_117 rfl (lv_at hl 1 rfl) ?_
        refine lv_iconst (v := 3) X.1 X.2.1 dX8_count_118 (by decide) ?_
        refine lv_isub X.1 X.2.1 dX8_count_119 ?_
        by_cases c9 : x1 - 3 = 0
        · have hf := ite_t hf c9
          refine z_aald X hK hP 1 4 rfl rfl (by rw [c9]; exact vp_lit _ _ (by decide)) (by rw [c9] <;> rfl) dX8_count_120 ?_
          refine z_get X hK hP hiX7 3 rfl rfl 3 (by decide) (bw_in W8_2) rfl dX8_count_121 ?_
          obtain ⟨rfl, rfl⟩ := z_inj2 hf
          exact z_iret X hr hlk hP hD hS dX8_count_124
        have hf := ite_f hf c9
        by_cases c10 : x1 - 3 = 1
        · have hf := ite_t hf c10
          refine z_aald X hK hP 1 4 rfl rfl (by rw [c10]; exact vp_lit _ _ (by decide)) (by rw [c10] <;> rfl) dX8_count_120 ?_
          refine z_get X hK hP hiX7 5 rfl rfl 3 (by decide) (bw_in W8_2) rfl dX8_count_121 ?_
          obtain ⟨rfl, rfl⟩ := z_inj2 hf
          exact z_iret X hr hlk hP hD hS dX8_count_124
        have hf := ite_f hf c10
        by_cases c11 : x1 - 3 = 2
        · have hf := ite_t hf c11
          refine z_aald X hK hP 1 4 rfl rfl (by rw [c11]; exact vp_lit _ _ (by decide)) (by rw [c11] <;> rfl) dX8_count_120 ?_
          refine z_get X hK hP hiX7 7 rfl rfl 3 (by decide) (bw_in W8_2) rfl dX8_count_121 ?_
          obtain ⟨rfl, rfl⟩ := z_inj2 hf
          exact z_iret X hr hlk hP hD hS dX8_count_124
        have hf := ite_f hf c11
        cases hf
      have hf := ite_f hf c8
      by_cases c12 : x1 = 4
      · have hf := ite_t hf c12
        refine lv_tableIn (tgt := 113) X.1 X.2.1 dX8_count_18 (by rw [c12]; decide) (by rw [c12]; decide) (by rw [c12]; rfl) (by decide) ?_
        refine lv_aload_n X.1 X.2.1 dX8_count_113 rfl (lv_at hl 0 rfl) ?_
        refine z_get X hK hP hiX8 0 rfl rfl 0 (by decide) (bw_in W1_13) rfl dX8_count_114 ?_
        refine lv_iload_n X.1 X.2.1 dX8_count_117 rfl (lv_at hl 1 rfl) ?_
        refine lv_iconst (v := 3) X.1 X.2.1 dX8_count_118 (by decide) ?_
        refine lv_isub X.1 X.2.1 dX8_count_119 ?_
        by_cases c13 : x1 - 3 = 0
        · have hf := ite_t hf c13
          refine z_aald X hK hP 1 4 rfl rfl (by rw [c13]; exact vp_lit _ _ (by decide)) (by rw [c13] <;> rfl) dX8_count_120 ?_
          refine z_get X hK hP hiX7 3 rfl rfl 3 (by decide) (bw_in W8_2) rfl dX8_count_121 ?_
          obtain ⟨rfl, rfl⟩ := z_inj2 hf
          exact z_iret X hr hlk hP hD hS dX8_count_124
        have hf := ite_f hf c13
        by_cases c14 : x1 - 3 = 1
        · have hf := ite_t hf c14
          refine z_aald X hK hP 1 4 rfl rfl (by rw [c14]; exact vp_lit _ _ (by decide)) (by rw [c14] <;> rfl) dX8_count_120 ?_
          refine z_get X hK hP hiX7 5 rfl rfl 3 (by decide) (bw_in W8_2) rfl dX8_count_121 ?_
          obtain ⟨rfl, rfl⟩ := z_inj2 hf
          exact z_iret X hr hlk hP hD hS dX8_count_124
        have hf := ite_f hf c14
        by_cases c15 : x1 - 3 = 2
        · have hf := ite_t hf c15
          refine z_aald X hK hP 1 4 rfl rfl (by rw [c15]; exact vp_lit _ _ (by decide)) (by rw [c15] <;> rfl) dX8_count_120 ?_
          refine z_get X hK hP hiX7 7 rfl rfl 3 (by decide) (bw_in W8_2) rfl dX8_count_121 ?_
          obtain ⟨rfl, rfl⟩ := z_inj2 hf
          exact z_iret X hr hlk hP hD hS dX8_count_124
        have hf := ite_f hf c15
        cases hf
      have hf := ite_f hf c12
      by_cases c16 : x1 = 5
      · have hf := ite_t hf c16
        refine lv_tableIn (tgt := 113) X.1 X.2.1 dX8_count_18 (by rw [c16]; decide) (by rw [c16]; decide) (by rw [c16]; rfl) (by decide) ?_
        refine lv_aload_n X.1 X.2.1 dX8_count_113 rfl (lv_at hl 0 rfl) ?_
        refine z_get X hK hP hiX8 0 rfl rfl 0 (by decide) (bw_in W1_13) rfl dX8_count_114 ?_
        refine lv_iload_n X.1 X.2.1 dX8_count_117 rfl (lv_at hl 1 rfl) ?_
        refine lv_iconst (v := 3) X.1 X.2.1 dX8_count_118 (by decide) ?_
        refine lv_isub X.1 X.2.1 dX8_count_119 ?_
        by_cases c17 : x1 - 3 = 0
        · have hf := ite_t hf c17
          refine z_aald X hK hP 1 4 rfl rfl (by rw [c17]; exact vp_lit _ _ (by decide)) (by rw [c17] <;> rfl) dX8_count_120 ?_
          refine z_get X hK hP hiX7 3 rfl rfl 3 (by decide) (bw_in W8_2) rfl dX8_count_121 ?_
          obtain ⟨rfl, rfl⟩ := z_inj2 hf
          exact z_iret X hr hlk hP hD hS dX8_count_124
        have hf := ite_f hf c17
        by_cases c18 : x1 - 3 = 1
        · have hf := ite_t hf c18
          refine z_aald X hK hP 1 4 rfl rfl (by rw [c18]; exact vp_lit _ _ (by decide)) (by rw [c18] <;> rfl) dX8_count_120 ?_
          refine z_get X hK hP hiX7 5 rfl rfl 3 (by decide) (bw_in W8_2) rfl dX8_count_121 ?_
          obtain ⟨rfl, rfl⟩ := z_inj2 hf
          exact z_iret X hr hlk hP hD hS dX8_count_124
        have hf := ite_f hf c18
        by_cases c19 : x1 - 3 = 2
        · have hf := ite_t hf c19
          refine z_aald X hK hP 1 4 rfl rfl (by rw [c19]; exact vp_lit _ _ (by decide)) (by rw [c19] <;> rfl) dX8_count_120 ?_
          refine z_get X hK hP hiX7 7 rfl rfl 3 (by decide) (bw_in W8_2) rfl dX8_count_121 ?_
          obtain ⟨rfl, rfl⟩ := z_inj2 hf
          exact z_iret X hr hlk hP hD hS dX8_count_124
        have hf := ite_f hf c19
        cases hf
      have hf := ite_f hf c16
      by_cases c20 : x1 = 6
      · have hf := ite_t hf c20
        refine lv_tableIn (tgt := 92) X.1 X.2.1 dX8_count_18 (by rw [c20]; decide) (by rw [c20]; decide) (by rw [c20]; rfl) (by decide) ?_
        refine lv_aload_n X.1 X.2.1 dX8_count_92 rfl (lv_at hl 0 rfl) ?_
        refine z_get X hK hP hiX8 0 rfl rfl 3 (by decide) (bw_in W1_23) rfl dX8_count_93 ?_
        obtain ⟨r21, hc22, hf⟩ := bd1_e hf
        have hp23 : List.Perm (wbALL K g z3 y0) ((wbX2 K (g 8) (z3 8) ++ (wbX4 K (g 8 0) (g 9) (z3 9))) ++ ([0, 1, 2, 3, 4, 5, 6, 7, 10, 11, 12, 13, 14].map (bfALL K g z3 y0)).flatten) := by rw [asc2]; exact wbALL_perm [8, 9, 0, 1, 2, 3, 4, 5, 6, 7, 10, 11, 12, 13, 14] (by decide)
        refine z_V (n := 0) (As := []) (rest := []) (ci := 4) (q0 := 9) X hK hN (kX4_howManyArrived l D K (g 8) (g 9) (z3 8) (z3 9) _ r21 hc22) (bw_V W38_1 W27_11 W27_12 W1_22 W27_13) rfl ⟨rfl, rfl⟩ (by decide +kernel) rfl ⟨Nat.le_of_ble_eq_true rfl, Nat.le_of_ble_eq_true rfl⟩ (hP.perm hp23).lef (hD.perm hp23).lef rfl rfl (zj_perm (ws' := wbALL K g z3 y0) hP hD hS hA hp23 (by rw [asc2]; refine List.Perm.symm ?_; exact wbALL_perm [8, 9, 0, 1, 2, 3, 4, 5, 6, 7, 10, 11, 12, 13, 14] (by decide))) hS hl.1 rfl (Nat.le_of_ble_eq_true rfl) dX8_count_96 ⟨Nat.zero_le _, Nat.zero_le _⟩ rfl (fun H locs hP hD hS => ?_)
        obtain ⟨rfl, rfl⟩ := z_inj2 hf
        exact z_iret X hr hlk hP hD hS dX8_count_99
      have hf := ite_f hf c20
      by_cases c24 : x1 = 7
      · have hf := ite_t hf c24
        refine lv_tableIn (tgt := 100) X.1 X.2.1 dX8_count_18 (by rw [c24]; decide) (by rw [c24]; decide) (by rw [c24]; rfl) (by decide) ?_
        refine lv_aload_n X.1 X.2.1 dX8_count_100 rfl (lv_at hl 0 rfl) ?_
        refine z_get X hK hP hiX8 0 rfl rfl 7 (by decide) (bw_in W2_12) rfl dX8_count_101 ?_
        refine z_get X hK hP hiX6 52 rfl rfl 0 (by decide) (bw_in W30_8) rfl dX8_count_104 ?_
        obtain ⟨rfl, rfl⟩ := z_inj2 hf
        exact z_iret X hr hlk hP hD hS dX8_count_107
      have hf := ite_f hf c24
      by_cases c25 : x1 = 8
      · have hf := ite_t hf c25
        refine lv_tableIn (tgt := 108) X.1 X.2.1 dX8_count_18 (by rw [c25]; decide) (by rw [c25]; decide) (by rw [c25]; rfl) (by decide) ?_
        refine lv_aload_n X.1 X.2.1 dX8_count_108 rfl (lv_at hl 0 rfl) ?_
        refine z_get X hK hP hiX8 0 rfl rfl 9 (by decide) (bw_in W2_17) rfl dX8_count_109 ?_
        obtain ⟨rfl, rfl⟩ := z_inj2 hf
        exact z_iret X hr hlk hP hD hS dX8_count_112
      have hf := ite_f hf c25
      refine lv_tableOut (tgt := 113) X.1 X.2.1 dX8_count_18 (by have nc5 := lv_neT c5 (a := 0) (by decide); have nc6 := lv_neT c6 (a := 1) (by decide); have nc7 := lv_neT c7 (a := 2) (by decide); have nc8 := lv_neT c8 (a := 3) (by decide); have nc12 := lv_neT c12 (a := 4) (by decide); have nc16 := lv_neT c16 (a := 5) (by decide); have nc20 := lv_neT c20 (a := 6) (by decide); have nc24 := lv_neT c24 (a := 7) (by decide); have nc25 := lv_neT c25 (a := 8) (by decide); omega) (by decide) ?_
      refine lv_aload_n X.1 X.2.1 dX8_count_113 rfl (lv_at hl 0 rfl) ?_
      refine z_get X hK hP hiX8 0 rfl rfl 0 (by decide) (bw_in W1_13) rfl dX8_count_114 ?_
      refine lv_iload_n X.1 X.2.1 dX8_count_117 rfl (lv_at hl 1 rfl) ?_
      refine lv_iconst (v := 3) X.1 X.2.1 dX8_count_118 (by decide) ?_
      refine lv_isub X.1 X.2.1 dX8_count_119 ?_
      by_cases c26 : x1 - 3 = 0
      · have hf := ite_t hf c26
        refine z_aald X hK hP 1 4 rfl rfl (by rw [c26]; exact vp_lit _ _ (by decide)) (by rw [c26] <;> rfl) dX8_count_120 ?_
        refine z_get X hK hP hiX7 3 rfl rfl 3 (by decide) (bw_in W8_2) rfl dX8_count_121 ?_
        obtain ⟨rfl, rfl⟩ := z_inj2 hf
        exact z_iret X hr hlk hP hD hS dX8_count_124
      have hf := ite_f hf c26
      by_cases c27 : x1 - 3 = 1
      · have hf := ite_t hf c27
        refine z_aald X hK hP 1 4 rfl rfl (by rw [c27]; exact vp_lit _ _ (by decide)) (by rw [c27] <;> rfl) dX8_count_120 ?_
        refine z_get X hK hP hiX7 5 rfl rfl 3 (by decide) (bw_in W8_2) rfl dX8_count_121 ?_
        obtain ⟨rfl, rfl⟩ := z_inj2 hf
        exact z_iret X hr hlk hP hD hS dX8_count_124
      have hf := ite_f hf c27
      by_cases c28 : x1 - 3 = 2
      · have hf := ite_t hf c28
        refine z_aald X hK hP 1 4 rfl rfl (by rw [c28]; exact vp_lit _ _ (by decide)) (by rw [c28] <;> rfl) dX8_count_120 ?_
        refine z_get X hK hP hiX7 7 rfl rfl 3 (by decide) (bw_in W8_2) rfl dX8_count_121 ?_
        obtain ⟨rfl, rfl⟩ := z_inj2 hf
        exact z_iret X hr hlk hP hD hS dX8_count_124
      have hf := ite_f hf c28
      cases hf
    · have hf := ite_f hf c2
      refine lv_bipush (v := -2) X.1 X.2.1 dX8_count_10 (by decide) ?_
      obtain ⟨rfl, rfl⟩ := z_inj2 hf
      exact z_iret X hr hlk hP hD hS dX8_count_12
abbrev rmX8_day : Room := { frames := 5, cells := 0, slots := 0, locals := 118 }
set_option maxHeartbeats 4000000 in
set_option maxRecDepth 100000 in
theorem kX8_day (l : Launch) (D : va_G) (K : Nat → ClassId) (g : Nat → Nat → Nat) (z0 : Nat → St) (y0 : Nat → Lt) (sz : Nat) (x1 : Int32) (x2 : Int32) (x3 : Int32) (q_ : Int32) (z_ : Nat → St) (hf : fX8_day z0 y0 x1 x2 x3 = some (q_, z_)) : Met l yX8_day (bw (Cond.code yX8_day cX8_day 6 (some .int))) rmX8_day (va_Pc [.ref (g 0 0), .int x1, .int x2, .int x3] (zB D K sz (wbALL K g z0 y0))) (zQ (some (.int q_)) D (va_A (wbALL K g z0 y0) sz) (wbALL K g z_ y0)) 0 0 (va_A (wbALL K g z0 y0) sz) := by
  refine z_of (cc := cX8_day) (maxL := 6) (ret := (some .int)) (own := RX8) (lv := [(0, .ref (g 0 0)), (1, .int x1), (2, .int x2), (3, .int x3)]) (by decide) rfl rfl (Nat.le_of_ble_eq_true rfl) rfl ?_
  intro p e s m below meth c X hr hlk hK hN hsz hP hD hA hS hin ls hl
  generalize va_A (wbALL K g z0 y0) sz = A at hD hA hS hN ⊢
  have hiX8 : ∀ w ∈ u_ws RX8 TX8 11, w ∈ (bw (Cond.code yX8_day cX8_day 6 (some .int))) := fun w h => bw_in (inlX8 w h)
  have L47_0 : ∀ (n : Nat), ∀ (n47_0 : Int32) (n47_1 : Int32) (n47_2 : Int32) (n47_3 : Int32) (q47_Z : Nat → St), fX8_day_47 y0 n n47_0 n47_1 n47_2 n47_3 q47_Z = some ((q_, z_)) → ∀ (H : Heap) (locs : List Loc), va_P D vwCl (wbALL K g q47_Z y0) H → va_D A (wbALL K g q47_Z y0) → va_S A s.heap H locs → ∀ (ls : Array Slot), lv_has ls 6 [(0, .ref (g 0 0)), (2, .int n47_0), (3, .int n47_1), (4, .int n47_2), (5, .int n47_3)] → W p l e rmX8_day s m ([.ref (g 0 0), .int x1, .int x2, .int x3] : List Value).toArray below meth c H locs 0 0 (MQ below (zQ (some (.int q_)) D A (wbALL K g z_ y0)) ([.ref (g 0 0), .int x1, .int x2, .int x3] : List Value).toArray s 0 0 A) (F0 m 47 ls []) := by
    intro n
    induction n with
    | zero =>
      intro n47_0 n47_1 n47_2 n47_3 q47_Z hf
      rw [fX8_day_47] at hf
      cases hf
    | succ n ih =>
      intro n47_0 n47_1 n47_2 n47_3 q47_Z hf H locs hP hD hS ls hl
      rw [fX8_day_47] at hf
      refine lv_iload X.1 X.2.1 dX8_day_47 (lv_at hl 4 rfl) ?_
      refine lv_iload_n X.1 X.2.1 dX8_day_49 rfl (lv_at hl 1 rfl) ?_
      refine lv_icmp_ge (tgt := 85) X.1 X.2.1 dX8_day_50 (by decide) (fun c14 => ?_) (fun c14 => ?_)
      · have hf := ite_t hf c14
        refine lv_iload_n X.1 X.2.1 dX8_day_85 rfl (lv_at hl 2 rfl) ?_
        refine lv_if_ne (tgt := 99) X.1 X.2.1 dX8_day_86 (by decide) (fun c15 => ?_) (fun c15 => ?_)
        · have hf := ite_f hf c15
          refine lv_aload_n X.1 X.2.1 dX8_day_99 rfl (lv_at hl 0 rfl) ?_
          refine z_get X hK hP hiX8 0 rfl rfl 4 (by decide) (bw_in W2_0) rfl dX8_day_100 ?_
          obtain ⟨r16, hc17, hf⟩ := bd1_e hf
          have hp18 : List.Perm (wbALL K g q47_Z y0) ((wbX2 K (g 8) (q47_Z 8) ++ (wbX4 K (g 8 0) (g 10) (q47_Z 10))) ++ ([0, 1, 2, 3, 4, 5, 6, 7, 9, 11, 12, 13, 14].map (bfALL K g q47_Z y0)).flatten) := by rw [asc2]; exact wbALL_perm [8, 10, 0, 1, 2, 3, 4, 5, 6, 7, 9, 11, 12, 13, 14] (by decide)
          refine z_V (n := 0) (As := []) (rest := []) (ci := 4) (q0 := 9) X hK hN (kX4_endsBehind l D K (g 8) (g 10) (q47_Z 8) (q47_Z 10) _ r16 hc17) (bw_V W22_7 W22_8 W22_9 W1_22 W22_10) rfl ⟨rfl, rfl⟩ (by decide +kernel) rfl ⟨Nat.le_of_ble_eq_true rfl, Nat.le_of_ble_eq_true rfl⟩ (hP.perm hp18).lef (hD.perm hp18).lef rfl rfl (zj_perm (ws' := wbALL K g q47_Z y0) hP hD hS hA hp18 (by rw [asc2]; refine List.Perm.symm ?_; exact wbALL_perm [8, 10, 0, 1, 2, 3, 4, 5, 6, 7, 9, 11, 12, 13, 14] (by decide))) hS hl.1 rfl (Nat.le_of_ble_eq_true rfl) dX8_day_103 ⟨Nat.zero_le _, Nat.zero_le _⟩ rfl (fun H locs hP hD hS => ?_)
          obtain ⟨rfl, rfl⟩ := z_inj2 hf
          exact z_iret X hr hlk hP hD hS dX8_day_106
        · have hf := ite_t hf c15
          refine lv_aload_n X.1 X.2.1 dX8_day_89 rfl (lv_at hl 0 rfl) ?_
          refine z_get X hK hP hiX8 0 rfl rfl 4 (by decide) (bw_in W2_0) rfl dX8_day_90 ?_
          obtain ⟨r19, hc20, hf⟩ := bd1_e hf
          have hp21 : List.Perm (wbALL K g q47_Z y0) ((wbX2 K (g 8) (q47_Z 8) ++ (wbX4 K (g 8 0) (g 10) (q47_Z 10))) ++ ([0, 1, 2, 3, 4, 5, 6, 7, 9, 11, 12, 13, 14].map (bfALL K g q47_Z y0)).flatten) := by rw [asc2]; exact wbALL_perm [8, 10, 0, 1, 2, 3, 4, 5, 6, 7, 9, 11, 12, 13, 14] (by decide)
          refine z_V (n := 0) (As := []) (rest := []) (ci := 4) (q0 := 9) X hK hN (kX4_howManyArrived l D K (g 8) (g 10) (q47_Z 8) (q47_Z 10) _ r19 hc20) (bw_V W38_1 W27_11 W27_12 W1_22 W27_13) rfl ⟨rfl, rfl⟩ (by decide +kernel) rfl ⟨Nat.le_of_ble_eq_true rfl, Nat.le_of_ble_eq_true rfl⟩ (hP.perm hp21).lef (hD.perm hp21).lef rfl rfl (zj_perm (ws' := wbALL K g q47_Z y0) hP hD hS hA hp21 (by rw [asc2]; refine List.Perm.symm ?_; exact wbALL_perm [8, 10, 0, 1, 2, 3, 4, 5, 6, 7, 9, 11, 12, 13, 14] (by decide))) hS hl.1 rfl (Nat.le_of_ble_eq_true rfl) dX8_day_93 ⟨Nat.zero_le _, Nat.zero_le _⟩ rfl (fun H locs hP hD hS => ?_)
          refine lv_goto (tgt := 106) X.1 X.2.1 dX8_day_96 (by decide) ?_
          obtain ⟨rfl, rfl⟩ := z_inj2 hf
          exact z_iret X hr hlk hP hD hS dX8_day_106
      · have hf := ite_f hf c14
        refine lv_ldc (v := 1103515245) X.1 X.2.1 X.2.2.2.1 (X.2.2.2.2 _ (bw_in W37_23)) dX8_day_53 ?_
        refine lv_iload X.1 X.2.1 dX8_day_55 (lv_at hl 3 rfl) ?_
        refine lv_imul X.1 X.2.1 dX8_day_57 ?_
        refine lv_sipush (v := 12345) X.1 X.2.1 dX8_day_58 (by decide) ?_
        refine lv_iadd X.1 X.2.1 dX8_day_61 ?_
        obtain ⟨w22, ew22, hf⟩ := stp_e hf
        refine z_top ew22 ?_
        refine lv_istore (lv' := [(4, .int w22), (0, .ref (g 0 0)), (2, .int n47_0), (3, .int n47_1), (5, .int n47_3)]) X.1 X.2.1 dX8_day_62 hl (by decide) rfl (fun ls hl => ?_)
        refine lv_aload_n X.1 X.2.1 dX8_day_64 rfl (lv_at hl 1 rfl) ?_
        refine z_get X hK hP hiX8 0 rfl rfl 4 (by decide) (bw_in W2_0) rfl dX8_day_65 ?_
        refine lv_iload X.1 X.2.1 dX8_day_68 (lv_at hl 0 rfl) ?_
        refine lv_bipush (v := 16) X.1 X.2.1 dX8_day_70 (by decide) ?_
        refine lv_iushr X.1 X.2.1 dX8_day_72 rfl ?_
        refine lv_bipush (v := 10) X.1 X.2.1 dX8_day_73 (by decide) ?_
        refine lv_irem X.1 X.2.1 dX8_day_75 (by decide) ?_
        obtain ⟨r23, hc24, hf⟩ := bd1_e hf
        obtain ⟨z25, ez25, hf⟩ := stp_e hf
        have hp26 : List.Perm (wbALL K g q47_Z y0) ((wbX2 K (g 8) (q47_Z 8) ++ (wbX4 K (g 8 0) (g 10) (q47_Z 10))) ++ ([0, 1, 2, 3, 4, 5, 6, 7, 9, 11, 12, 13, 14].map (bfALL K g q47_Z y0)).flatten) := by rw [asc2]; exact wbALL_perm [8, 10, 0, 1, 2, 3, 4, 5, 6, 7, 9, 11, 12, 13, 14] (by decide)
        refine z_V (n := 1) (As := [.int ((((w22 : Int32).toUInt32 >>> ((16 : Int32).toUInt32 &&& Int32.toUInt32 31)).toInt32) - (((w22 : Int32).toUInt32 >>> ((16 : Int32).toUInt32 &&& Int32.toUInt32 31)).toInt32) / 10 * 10)]) (rest := []) (ci := 4) (q0 := 9) X hK hN (kX4_goTo l D K (g 8) (g 10) (q47_Z 8) (q47_Z 10) _ ((((w22 : Int32).toUInt32 >>> ((16 : Int32).toUInt32 &&& Int32.toUInt32 31)).toInt32) - (((w22 : Int32).toUInt32 >>> ((16 : Int32).toUInt32 &&& Int32.toUInt32 31)).toInt32) / 10 * 10) r23 hc24) (bw_V W38_0 W14_5 W14_6 W1_22 W14_7) rfl ⟨rfl, rfl⟩ (by decide +kernel) rfl ⟨Nat.le_of_ble_eq_true rfl, Nat.le_of_ble_eq_true rfl⟩ (hP.perm hp26).lef (hD.perm hp26).lef rfl rfl (zj_perm (ws' := wbALL K g z25 y0) hP hD hS hA hp26 (by rw [ez25, asc2]; refine List.Perm.symm ?_; exact wbALL_perm [8, 10, 0, 1, 2, 3, 4, 5, 6, 7, 9, 11, 12, 13, 14] (by decide))) hS hl.1 rfl (Nat.le_of_ble_eq_true rfl) dX8_day_76 ⟨Nat.zero_le _, Nat.zero_le _⟩ rfl (fun H locs hP hD hS => ?_)
        obtain ⟨w27, ew27, hf⟩ := stp_e hf
        refine lv_iinc (v := w27) (lv' := [(5, .int w27), (4, .int w22), (0, .ref (g 0 0)), (2, .int n47_0), (3, .int n47_1)]) X.1 X.2.1 dX8_day_79 hl (k := 4) rfl (by rw [ew27]; rfl) (by decide) rfl (fun ls hl => ?_)
        refine lv_goto (tgt := 47) X.1 X.2.1 dX8_day_82 (by decide) ?_
        exact ih _ _ _ _ _ hf _ _ hP hD hS _ (lv_sub hl [2, 3, 4, 1, 0] rfl)
  rw [fX8_day] at hf
  refine lv_iload_n X.1 X.2.1 dX8_day_0 rfl (lv_at hl 2 rfl) ?_
  refine lv_iconst (v := 1) X.1 X.2.1 dX8_day_1 (by decide) ?_
  refine lv_icmp_lt (tgt := 20) X.1 X.2.1 dX8_day_2 (by decide) (fun c1 => ?_) (fun c1 => ?_)
  · have hf := ite_t hf c1
    refine lv_bipush (v := -2) X.1 X.2.1 dX8_day_20 (by decide) ?_
    obtain ⟨rfl, rfl⟩ := z_inj2 hf
    exact z_iret X hr hlk hP hD hS dX8_day_22
  · have hf := ite_f hf c1
    refine lv_iload_n X.1 X.2.1 dX8_day_5 rfl (lv_at hl 2 rfl) ?_
    refine lv_bipush (v := 20) X.1 X.2.1 dX8_day_6 (by decide) ?_
    refine lv_icmp_gt (tgt := 20) X.1 X.2.1 dX8_day_8 (by decide) (fun c2 => ?_) (fun c2 => ?_)
    · have hf := ite_t hf c2
      refine lv_bipush (v := -2) X.1 X.2.1 dX8_day_20 (by decide) ?_
      obtain ⟨rfl, rfl⟩ := z_inj2 hf
      exact z_iret X hr hlk hP hD hS dX8_day_22
    · have hf := ite_f hf c2
      refine lv_iload_n X.1 X.2.1 dX8_day_11 rfl (lv_at hl 3 rfl) ?_
      refine lv_if_lt (tgt := 20) X.1 X.2.1 dX8_day_12 (by decide) (fun c3 => ?_) (fun c3 => ?_)
      · have hf := ite_t hf c3
        refine lv_bipush (v := -2) X.1 X.2.1 dX8_day_20 (by decide) ?_
        obtain ⟨rfl, rfl⟩ := z_inj2 hf
        exact z_iret X hr hlk hP hD hS dX8_day_22
      · have hf := ite_f hf c3
        refine lv_iload_n X.1 X.2.1 dX8_day_15 rfl (lv_at hl 3 rfl) ?_
        refine lv_iconst (v := 1) X.1 X.2.1 dX8_day_16 (by decide) ?_
        refine lv_icmp_le (tgt := 23) X.1 X.2.1 dX8_day_17 (by decide) (fun c4 => ?_) (fun c4 => ?_)
        · have hf := ite_t hf c4
          refine lv_aload_n X.1 X.2.1 dX8_day_23 rfl (lv_at hl 0 rfl) ?_
          obtain ⟨z5, hc6, hf⟩ := bd1_e hf
          refine z_V (n := 0) (As := []) (rest := []) (ci := 8) (q0 := 0) X hK hN (kX8_freshen l D K g z0 y0 _ z5 hc6) (bw_V W11_14 W11_15 W11_16 W1_2 W11_17) rfl ⟨rfl, rfl⟩ (by decide +kernel) rfl ⟨Nat.le_of_ble_eq_true rfl, Nat.le_of_ble_eq_true rfl⟩ hP hD rfl rfl (zj_same hD hS hA) hS hl.1 rfl (Nat.le_of_ble_eq_true rfl) dX8_day_24 ⟨Nat.zero_le _, Nat.zero_le _⟩ rfl (fun H locs hP hD hS => ?_)
          refine lv_aload_n X.1 X.2.1 dX8_day_27 rfl (lv_at hl 0 rfl) ?_
          refine z_get X hK hP hiX8 0 rfl rfl 4 (by decide) (bw_in W2_0) rfl dX8_day_28 ?_
          refine lv_aload_n X.1 X.2.1 dX8_day_31 rfl (lv_at hl 0 rfl) ?_
          refine z_get X hK hP hiX8 0 rfl rfl 2 (by decide) (bw_in W1_19) rfl dX8_day_32 ?_
          obtain ⟨r7, hc8, hf⟩ := bd1_e hf
          have hp9 : List.Perm (wbALL K g z5 y0) ((wbX2 K (g 8) (z5 8)) ++ ([0, 1, 2, 3, 4, 5, 6, 7, 9, 10, 11, 12, 13, 14].map (bfALL K g z5 y0)).flatten) := wbALL_perm [8, 0, 1, 2, 3, 4, 5, 6, 7, 9, 10, 11, 12, 13, 14] (by decide)
          refine z_V (n := 0) (As := []) (rest := [.ref (g 10 0)]) (ci := 2) (q0 := 0) X hK hN (kX2_allLeavers l D K (g 8) (z5 8) _ r7 hc8) (bw_V W13_3 W13_4 W13_5 W1_18 W13_6) rfl ⟨rfl, rfl⟩ (by decide +kernel) rfl ⟨Nat.le_of_ble_eq_true rfl, Nat.le_of_ble_eq_true rfl⟩ (hP.perm hp9).lef (hD.perm hp9).lef rfl rfl (zj_perm (ws' := wbALL K g z5 y0) hP hD hS hA hp9 (by refine List.Perm.symm ?_; exact wbALL_perm [8, 0, 1, 2, 3, 4, 5, 6, 7, 9, 10, 11, 12, 13, 14] (by decide))) hS hl.1 rfl (Nat.le_of_ble_eq_true rfl) dX8_day_35 ⟨Nat.zero_le _, Nat.zero_le _⟩ rfl (fun H locs hP hD hS => ?_)
          obtain ⟨r10, hc11, hf⟩ := bd1_e hf
          obtain ⟨z12, ez12, hf⟩ := stp_e hf
          have hp13 : List.Perm (wbALL K g z5 y0) ((wbX2 K (g 8) (z5 8) ++ (wbX4 K (g 8 0) (g 10) (z5 10))) ++ ([0, 1, 2, 3, 4, 5, 6, 7, 9, 11, 12, 13, 14].map (bfALL K g z5 y0)).flatten) := by rw [asc2]; exact wbALL_perm [8, 10, 0, 1, 2, 3, 4, 5, 6, 7, 9, 11, 12, 13, 14] (by decide)
          refine z_V (n := 1) (As := [.int r7]) (rest := []) (ci := 4) (q0 := 9) X hK hN (kX4_begin l D K (g 8) (g 10) (z5 8) (z5 10) _ r7 r10 hc11) (bw_V W13_7 W13_8 W13_9 W1_22 W13_10) rfl ⟨rfl, rfl⟩ (by decide +kernel) rfl ⟨Nat.le_of_ble_eq_true rfl, Nat.le_of_ble_eq_true rfl⟩ (hP.perm hp13).lef (hD.perm hp13).lef rfl rfl (zj_perm (ws' := wbALL K g z12 y0) hP hD hS hA hp13 (by rw [ez12, asc2]; refine List.Perm.symm ?_; exact wbALL_perm [8, 10, 0, 1, 2, 3, 4, 5, 6, 7, 9, 11, 12, 13, 14] (by decide))) hS hl.1 rfl (Nat.le_of_ble_eq_true rfl) dX8_day_38 ⟨Nat.zero_le _, Nat.zero_le _⟩ rfl (fun H locs hP hD hS => ?_)
          refine lv_iload_n X.1 X.2.1 dX8_day_41 rfl (lv_at hl 1 rfl) ?_
          refine lv_istore (lv' := [(4, .int x1), (0, .ref (g 0 0)), (1, .int x1), (2, .int x2), (3, .int x3)]) X.1 X.2.1 dX8_day_42 hl (by decide) rfl (fun ls hl => ?_)
          refine lv_iconst (v := 0) X.1 X.2.1 dX8_day_44 (by decide) ?_
          refine lv_istore (lv' := [(5, .int 0), (4, .int x1), (0, .ref (g 0 0)), (1, .int x1), (2, .int x2), (3, .int x3)]) X.1 X.2.1 dX8_day_45 hl (by decide) rfl (fun ls hl => ?_)
          exact L47_0  _ _ _ _ _ _ hf _ _ hP hD hS _ (lv_sub hl [2, 4, 5, 1, 0] rfl)
        · have hf := ite_f hf c4
          refine lv_bipush (v := -2) X.1 X.2.1 dX8_day_20 (by decide) ?_
          obtain ⟨rfl, rfl⟩ := z_inj2 hf
          exact z_iret X hr hlk hP hD hS dX8_day_22
abbrev rmX8_noSuchRider : Room := { frames := 0, cells := 0, slots := 0, locals := 0 }
set_option maxHeartbeats 4000000 in
set_option maxRecDepth 100000 in
theorem kX8_noSuchRider (l : Launch) (D : va_G) (K : Nat → ClassId) (g : Nat → Nat → Nat) (z0 : Nat → St) (y0 : Nat → Lt) (sz : Nat) (x1 : Int32) (q_ : Int32) (hf : fX8_noSuchRider z0 y0 x1 = some q_) : Met l yX8_noSuchRider (bw (Cond.code yX8_noSuchRider cX8_noSuchRider 2 (some .boolean))) rmX8_noSuchRider (va_Pc [.ref (g 0 0), .int x1] (zB D K sz (wbALL K g z0 y0))) (zQ (some (.int q_)) D (va_A (wbALL K g z0 y0) sz) (wbALL K g z0 y0)) 0 0 (va_A (wbALL K g z0 y0) sz) := by
  refine z_of (cc := cX8_noSuchRider) (maxL := 2) (ret := (some .boolean)) (own := RX8) (lv := [(0, .ref (g 0 0)), (1, .int x1)]) (by decide) rfl rfl (Nat.le_of_ble_eq_true rfl) rfl ?_
  intro p e s m below meth c X hr hlk hK hN hsz hP hD hA hS hin ls hl
  generalize va_A (wbALL K g z0 y0) sz = A at hD hA hS hN ⊢
  have hiX2 : ∀ w ∈ u_ws RX2 TX2 14, w ∈ (bw (Cond.code yX8_noSuchRider cX8_noSuchRider 2 (some .boolean))) := fun w h => bw_in (inlX2 w h)
  have hiX8 : ∀ w ∈ u_ws RX8 TX8 11, w ∈ (bw (Cond.code yX8_noSuchRider cX8_noSuchRider 2 (some .boolean))) := fun w h => bw_in (inlX8 w h)
  rw [fX8_noSuchRider] at hf
  refine lv_iload_n X.1 X.2.1 dX8_noSuchRider_0 rfl (lv_at hl 1 rfl) ?_
  refine lv_if_lt (tgt := 15) X.1 X.2.1 dX8_noSuchRider_1 (by decide) (fun c1 => ?_) (fun c1 => ?_)
  · have hf := ite_t hf c1
    refine lv_iconst (v := 1) X.1 X.2.1 dX8_noSuchRider_15 (by decide) ?_
    refine lv_goto (tgt := 20) X.1 X.2.1 dX8_noSuchRider_16 (by decide) ?_
    obtain rfl := z_inj1 hf
    exact z_zret X hr hlk (by decide) hP hD hS dX8_noSuchRider_20
  · have hf := ite_f hf c1
    refine lv_iload_n X.1 X.2.1 dX8_noSuchRider_4 rfl (lv_at hl 1 rfl) ?_
    refine lv_aload_n X.1 X.2.1 dX8_noSuchRider_5 rfl (lv_at hl 0 rfl) ?_
    refine z_get X hK hP hiX8 0 rfl rfl 2 (by decide) (bw_in W1_19) rfl dX8_noSuchRider_6 ?_
    refine z_get X hK hP hiX2 17 rfl rfl 2 (by decide) (bw_in W16_4) rfl dX8_noSuchRider_9 ?_
    refine lv_icmp_lt (tgt := 19) X.1 X.2.1 dX8_noSuchRider_12 (by decide) (fun c2 => ?_) (fun c2 => ?_)
    · have hf := ite_t hf c2
      refine lv_iconst (v := 0) X.1 X.2.1 dX8_noSuchRider_19 (by decide) ?_
      obtain rfl := z_inj1 hf
      exact z_zret X hr hlk (by decide) hP hD hS dX8_noSuchRider_20
    · have hf := ite_f hf c2
      refine lv_iconst (v := 1) X.1 X.2.1 dX8_noSuchRider_15 (by decide) ?_
      refine lv_goto (tgt := 20) X.1 X.2.1 dX8_noSuchRider_16 (by decide) ?_
      obtain rfl := z_inj1 hf
      exact z_zret X hr hlk (by decide) hP hD hS dX8_noSuchRider_20
abbrev rmX8_knows : Room := { frames := 5, cells := 0, slots := 0, locals := 118 }
set_option maxHeartbeats 4000000 in
set_option maxRecDepth 100000 in
theorem kX8_knows (l : Launch) (D : va_G) (K : Nat → ClassId) (g : Nat → Nat → Nat) (z0 : Nat → St) (y0 : Nat → Lt) (sz : Nat) (x1 : Int32) (x2 : Int32) (q_ : Int32) (z_ : Nat → St) (hf : fX8_knows z0 y0 x1 x2 = some (q_, z_)) : Met l yX8_knows (bw (Cond.code yX8_knows cX8_knows 3 (some .int))) rmX8_knows (va_Pc [.ref (g 0 0), .int x1, .int x2] (zB D K sz (wbALL K g z0 y0))) (zQ (some (.int q_)) D (va_A (wbALL K g z0 y0) sz) (wbALL K g z_ y0)) 0 0 (va_A (wbALL K g z0 y0) sz) := by
  refine z_of (cc := cX8_knows) (maxL := 3) (ret := (some .int)) (own := RX8) (lv := [(0, .ref (g 0 0)), (1, .int x1), (2, .int x2)]) (by decide) rfl rfl (Nat.le_of_ble_eq_true rfl) rfl ?_
  intro p e s m below meth c X hr hlk hK hN hsz hP hD hA hS hin ls hl
  generalize va_A (wbALL K g z0 y0) sz = A at hD hA hS hN ⊢
  have hiX8 : ∀ w ∈ u_ws RX8 TX8 11, w ∈ (bw (Cond.code yX8_knows cX8_knows 3 (some .int))) := fun w h => bw_in (inlX8 w h)
  rw [fX8_knows] at hf
  refine lv_aload_n X.1 X.2.1 dX8_knows_0 rfl (lv_at hl 0 rfl) ?_
  obtain ⟨z1, hc2, hf⟩ := bd1_e hf
  refine z_V (n := 0) (As := []) (rest := []) (ci := 8) (q0 := 0) X hK hN (kX8_freshen l D K g z0 y0 _ z1 hc2) (bw_V W11_14 W11_15 W11_16 W1_2 W11_17) rfl ⟨rfl, rfl⟩ (by decide +kernel) rfl ⟨Nat.le_of_ble_eq_true rfl, Nat.le_of_ble_eq_true rfl⟩ hP hD rfl rfl (zj_same hD hS hA) hS hl.1 rfl (Nat.le_of_ble_eq_true rfl) dX8_knows_1 ⟨Nat.zero_le _, Nat.zero_le _⟩ rfl (fun H locs hP hD hS => ?_)
  refine lv_aload_n X.1 X.2.1 dX8_knows_4 rfl (lv_at hl 0 rfl) ?_
  refine lv_iload_n X.1 X.2.1 dX8_knows_5 rfl (lv_at hl 1 rfl) ?_
  obtain ⟨r3, hc4, hf⟩ := bd1_e hf
  refine z_V (n := 1) (As := [.int x1]) (rest := []) (ci := 8) (q0 := 0) X hK hN (kX8_noSuchRider l D K g z1 y0 _ x1 r3 hc4) (bw_V W16_0 W16_1 W16_2 W1_2 W16_3) rfl ⟨rfl, rfl⟩ (by decide +kernel) rfl ⟨Nat.le_of_ble_eq_true rfl, Nat.le_of_ble_eq_true rfl⟩ hP hD rfl rfl (zj_same hD hS hA) hS hl.1 rfl (Nat.le_of_ble_eq_true rfl) dX8_knows_6 ⟨Nat.zero_le _, Nat.zero_le _⟩ rfl (fun H locs hP hD hS => ?_)
  refine lv_if_ne (tgt := 21) X.1 X.2.1 dX8_knows_9 (by decide) (fun c5 => ?_) (fun c5 => ?_)
  · have hf := ite_f hf c5
    refine lv_bipush (v := -2) X.1 X.2.1 dX8_knows_21 (by decide) ?_
    obtain ⟨rfl, rfl⟩ := z_inj2 hf
    exact z_iret X hr hlk hP hD hS dX8_knows_23
  · have hf := ite_t hf c5
    refine lv_iload_n X.1 X.2.1 dX8_knows_12 rfl (lv_at hl 2 rfl) ?_
    refine lv_if_lt (tgt := 21) X.1 X.2.1 dX8_knows_13 (by decide) (fun c6 => ?_) (fun c6 => ?_)
    · have hf := ite_t hf c6
      refine lv_bipush (v := -2) X.1 X.2.1 dX8_knows_21 (by decide) ?_
      obtain ⟨rfl, rfl⟩ := z_inj2 hf
      exact z_iret X hr hlk hP hD hS dX8_knows_23
    · have hf := ite_f hf c6
      refine lv_iload_n X.1 X.2.1 dX8_knows_16 rfl (lv_at hl 2 rfl) ?_
      refine lv_iconst (v := 1) X.1 X.2.1 dX8_knows_17 (by decide) ?_
      refine lv_icmp_le (tgt := 24) X.1 X.2.1 dX8_knows_18 (by decide) (fun c7 => ?_) (fun c7 => ?_)
      · have hf := ite_t hf c7
        refine lv_iload_n X.1 X.2.1 dX8_knows_24 rfl (lv_at hl 2 rfl) ?_
        refine lv_if_ne (tgt := 39) X.1 X.2.1 dX8_knows_25 (by decide) (fun c8 => ?_) (fun c8 => ?_)
        · have hf := ite_f hf c8
          refine lv_aload_n X.1 X.2.1 dX8_knows_39 rfl (lv_at hl 0 rfl) ?_
          refine z_get X hK hP hiX8 0 rfl rfl 3 (by decide) (bw_in W1_23) rfl dX8_knows_40 ?_
          obtain ⟨r9, hc10, hf⟩ := bd1_e hf
          have hp11 : List.Perm (wbALL K g z1 y0) ((wbX2 K (g 8) (z1 8) ++ (wbX4 K (g 8 0) (g 9) (z1 9))) ++ ([0, 1, 2, 3, 4, 5, 6, 7, 10, 11, 12, 13, 14].map (bfALL K g z1 y0)).flatten) := by rw [asc2]; exact wbALL_perm [8, 9, 0, 1, 2, 3, 4, 5, 6, 7, 10, 11, 12, 13, 14] (by decide)
          refine z_V (n := 0) (As := []) (rest := []) (ci := 4) (q0 := 9) X hK hN (kX4_heard l D K (g 8) (g 9) (z1 8) (z1 9) _ r9 hc10) (bw_V W25_21 W25_22 W25_23 W1_22 W26_0) rfl ⟨rfl, rfl⟩ (by decide +kernel) rfl ⟨Nat.le_of_ble_eq_true rfl, Nat.le_of_ble_eq_true rfl⟩ (hP.perm hp11).lef (hD.perm hp11).lef rfl rfl (zj_perm (ws' := wbALL K g z1 y0) hP hD hS hA hp11 (by rw [asc2]; refine List.Perm.symm ?_; exact wbALL_perm [8, 9, 0, 1, 2, 3, 4, 5, 6, 7, 10, 11, 12, 13, 14] (by decide))) hS hl.1 rfl (Nat.le_of_ble_eq_true rfl) dX8_knows_43 ⟨Nat.zero_le _, Nat.zero_le _⟩ rfl (fun H locs hP hD hS => ?_)
          refine lv_iload_n X.1 X.2.1 dX8_knows_46 rfl (lv_at hl 1 rfl) ?_
          obtain ⟨r12, hc13, hf⟩ := bd1_e hf
          refine z_S (n := 2) (As := [.long r9, .int x1]) (rest := []) X hK hN (kX8_byteOf l D K _ r9 x1 r12 hc13) (bw_S W26_6 W26_4 W1_2 W26_5) rfl ⟨rfl, rfl⟩ (by decide +kernel) rfl ⟨Nat.le_of_ble_eq_true rfl, Nat.le_of_ble_eq_true rfl⟩ (fun _ _ h => by simp at h) ⟨fun _ _ _ _ h => by simp at h, fun _ _ h => by simp at h⟩ (zj_none hP hD hS hA) hS hl.1 rfl (Nat.le_of_ble_eq_true rfl) dX8_knows_47 ⟨Nat.zero_le _, Nat.zero_le _⟩ rfl (fun H locs hP hD hS => ?_)
          obtain ⟨rfl, rfl⟩ := z_inj2 hf
          exact z_iret X hr hlk hP hD hS dX8_knows_50
        · have hf := ite_t hf c8
          refine lv_aload_n X.1 X.2.1 dX8_knows_28 rfl (lv_at hl 0 rfl) ?_
          refine z_get X hK hP hiX8 0 rfl rfl 3 (by decide) (bw_in W1_23) rfl dX8_knows_29 ?_
          refine lv_iload_n X.1 X.2.1 dX8_knows_32 rfl (lv_at hl 1 rfl) ?_
          obtain ⟨r14, hc15, hf⟩ := bd1_e hf
          have hp16 : List.Perm (wbALL K g z1 y0) ((wbX2 K (g 8) (z1 8) ++ (wbX4 K (g 8 0) (g 9) (z1 9))) ++ ([0, 1, 2, 3, 4, 5, 6, 7, 10, 11, 12, 13, 14].map (bfALL K g z1 y0)).flatten) := by rw [asc2]; exact wbALL_perm [8, 9, 0, 1, 2, 3, 4, 5, 6, 7, 10, 11, 12, 13, 14] (by decide)
          refine z_V (n := 1) (As := [.int x1]) (rest := []) (ci := 4) (q0 := 9) X hK hN (kX4_known l D K (g 8) (g 9) (z1 8) (z1 9) _ x1 r14 hc15) (bw_V W25_17 W25_18 W25_19 W1_22 W25_20) rfl ⟨rfl, rfl⟩ (by decide +kernel) rfl ⟨Nat.le_of_ble_eq_true rfl, Nat.le_of_ble_eq_true rfl⟩ (hP.perm hp16).lef (hD.perm hp16).lef rfl rfl (zj_perm (ws' := wbALL K g z1 y0) hP hD hS hA hp16 (by rw [asc2]; refine List.Perm.symm ?_; exact wbALL_perm [8, 9, 0, 1, 2, 3, 4, 5, 6, 7, 10, 11, 12, 13, 14] (by decide))) hS hl.1 rfl (Nat.le_of_ble_eq_true rfl) dX8_knows_33 ⟨Nat.zero_le _, Nat.zero_le _⟩ rfl (fun H locs hP hD hS => ?_)
          refine lv_goto (tgt := 50) X.1 X.2.1 dX8_knows_36 (by decide) ?_
          obtain ⟨rfl, rfl⟩ := z_inj2 hf
          exact z_iret X hr hlk hP hD hS dX8_knows_50
      · have hf := ite_f hf c7
        refine lv_bipush (v := -2) X.1 X.2.1 dX8_knows_21 (by decide) ?_
        obtain ⟨rfl, rfl⟩ := z_inj2 hf
        exact z_iret X hr hlk hP hD hS dX8_knows_23
abbrev rmX8_mix : Room := { frames := 0, cells := 0, slots := 0, locals := 0 }
set_option maxHeartbeats 4000000 in
set_option maxRecDepth 100000 in
theorem kX8_mix (l : Launch) (D : va_G) (K : Nat → ClassId)   (sz : Nat) (x1 : Int64) (x2 : Int64) (q_ : Int64) (hf : fX8_mix x1 x2 = some q_) : Met l yX8_mix (bw (Cond.code yX8_mix cX8_mix 4 (some .long))) rmX8_mix (va_Pc [.long x1, .long x2] (zB D K sz (([] : va_W)))) (zQ (some (.long q_)) D (va_A (([] : va_W)) sz) (([] : va_W))) 0 0 (va_A (([] : va_W)) sz) := by
  refine z_of (cc := cX8_mix) (maxL := 4) (ret := (some .long)) (own := RX8) (lv := [(0, .long x1), (2, .long x2)]) (by decide) rfl rfl (Nat.le_of_ble_eq_true rfl) rfl ?_
  intro p e s m below meth c X hr hlk hK hN hsz hP hD hA hS hin ls hl
  generalize va_A (([] : va_W)) sz = A at hD hA hS hN ⊢
  rw [fX8_mix] at hf
  refine lv_ldc2 (v := 31) X.1 X.2.1 X.2.2.2.1 (X.2.2.2.2 _ (bw_in W42_21)) dX8_mix_0 ?_
  refine lv_lload_n X.1 X.2.1 dX8_mix_3 rfl (lv_at hl 0 rfl) ?_
  refine lv_lmul X.1 X.2.1 dX8_mix_4 ?_
  refine lv_lload_n X.1 X.2.1 dX8_mix_5 rfl (lv_at hl 1 rfl) ?_
  refine lv_ladd X.1 X.2.1 dX8_mix_6 ?_
  obtain rfl := z_inj1 hf
  exact z_lret X hr hlk hP hD hS dX8_mix_7
abbrev rmX8_rides : Room := { frames := 5, cells := 0, slots := 0, locals := 118 }
set_option maxHeartbeats 4000000 in
set_option maxRecDepth 100000 in
theorem kX8_rides (l : Launch) (D : va_G) (K : Nat → ClassId) (g : Nat → Nat → Nat) (z0 : Nat → St) (y0 : Nat → Lt) (sz : Nat) (x1 : Int32) (x2 : Int32) (q_ : Int32) (z_ : Nat → St) (hf : fX8_rides z0 y0 x1 x2 = some (q_, z_)) : Met l yX8_rides (bw (Cond.code yX8_rides cX8_rides 3 (some .int))) rmX8_rides (va_Pc [.ref (g 0 0), .int x1, .int x2] (zB D K sz (wbALL K g z0 y0))) (zQ (some (.int q_)) D (va_A (wbALL K g z0 y0) sz) (wbALL K g z_ y0)) 0 0 (va_A (wbALL K g z0 y0) sz) := by
  refine z_of (cc := cX8_rides) (maxL := 3) (ret := (some .int)) (own := RX8) (lv := [(0, .ref (g 0 0)), (1, .int x1), (2, .int x2)]) (by decide) rfl rfl (Nat.le_of_ble_eq_true rfl) rfl ?_
  intro p e s m below meth c X hr hlk hK hN hsz hP hD hA hS hin ls hl
  generalize va_A (wbALL K g z0 y0) sz = A at hD hA hS hN ⊢
  have hiX8 : ∀ w ∈ u_ws RX8 TX8 11, w ∈ (bw (Cond.code yX8_rides cX8_rides 3 (some .int))) := fun w h => bw_in (inlX8 w h)
  rw [fX8_rides] at hf
  refine lv_aload_n X.1 X.2.1 dX8_rides_0 rfl (lv_at hl 0 rfl) ?_
  obtain ⟨z1, hc2, hf⟩ := bd1_e hf
  refine z_V (n := 0) (As := []) (rest := []) (ci := 8) (q0 := 0) X hK hN (kX8_freshen l D K g z0 y0 _ z1 hc2) (bw_V W11_14 W11_15 W11_16 W1_2 W11_17) rfl ⟨rfl, rfl⟩ (by decide +kernel) rfl ⟨Nat.le_of_ble_eq_true rfl, Nat.le_of_ble_eq_true rfl⟩ hP hD rfl rfl (zj_same hD hS hA) hS hl.1 rfl (Nat.le_of_ble_eq_true rfl) dX8_rides_1 ⟨Nat.zero_le _, Nat.zero_le _⟩ rfl (fun H locs hP hD hS => ?_)
  refine lv_aload_n X.1 X.2.1 dX8_rides_4 rfl (lv_at hl 0 rfl) ?_
  refine lv_iload_n X.1 X.2.1 dX8_rides_5 rfl (lv_at hl 1 rfl) ?_
  obtain ⟨r3, hc4, hf⟩ := bd1_e hf
  refine z_V (n := 1) (As := [.int x1]) (rest := []) (ci := 8) (q0 := 0) X hK hN (kX8_noSuchRider l D K g z1 y0 _ x1 r3 hc4) (bw_V W16_0 W16_1 W16_2 W1_2 W16_3) rfl ⟨rfl, rfl⟩ (by decide +kernel) rfl ⟨Nat.le_of_ble_eq_true rfl, Nat.le_of_ble_eq_true rfl⟩ hP hD rfl rfl (zj_same hD hS hA) hS hl.1 rfl (Nat.le_of_ble_eq_true rfl) dX8_rides_6 ⟨Nat.zero_le _, Nat.zero_le _⟩ rfl (fun H locs hP hD hS => ?_)
  refine lv_if_eq (tgt := 15) X.1 X.2.1 dX8_rides_9 (by decide) (fun c5 => ?_) (fun c5 => ?_)
  · have hf := ite_t hf c5
    refine lv_iload_n X.1 X.2.1 dX8_rides_15 rfl (lv_at hl 2 rfl) ?_
    by_cases c6 : x2 = 0
    · have hf := ite_t hf c6
      refine lv_tableIn (tgt := 44) X.1 X.2.1 dX8_rides_16 (by rw [c6]; decide) (by rw [c6]; decide) (by rw [c6]; rfl) (by decide) ?_
      refine lv_aload_n X.1 X.2.1 dX8_rides_44 rfl (lv_at hl 0 rfl) ?_
      refine z_get X hK hP hiX8 0 rfl rfl 3 (by decide) (bw_in W1_23) rfl dX8_rides_45 ?_
      refine lv_iload_n X.1 X.2.1 dX8_rides_48 rfl (lv_at hl 1 rfl) ?_
      obtain ⟨r7, hc8, hf⟩ := bd1_e hf
      have hp9 : List.Perm (wbALL K g z1 y0) ((wbX2 K (g 8) (z1 8) ++ (wbX4 K (g 8 0) (g 9) (z1 9))) ++ ([0, 1, 2, 3, 4, 5, 6, 7, 10, 11, 12, 13, 14].map (bfALL K g z1 y0)).flatten) := by rw [asc2]; exact wbALL_perm [8, 9, 0, 1, 2, 3, 4, 5, 6, 7, 10, 11, 12, 13, 14] (by decide)
      refine z_V (n := 1) (As := [.int x1]) (rest := []) (ci := 4) (q0 := 9) X hK hN (kX4_getsInBehind l D K (g 8) (g 9) (z1 8) (z1 9) _ x1 r7 hc8) (bw_V W22_23 W23_0 W23_1 W1_22 W23_2) rfl ⟨rfl, rfl⟩ (by decide +kernel) rfl ⟨Nat.le_of_ble_eq_true rfl, Nat.le_of_ble_eq_true rfl⟩ (hP.perm hp9).lef (hD.perm hp9).lef rfl rfl (zj_perm (ws' := wbALL K g z1 y0) hP hD hS hA hp9 (by rw [asc2]; refine List.Perm.symm ?_; exact wbALL_perm [8, 9, 0, 1, 2, 3, 4, 5, 6, 7, 10, 11, 12, 13, 14] (by decide))) hS hl.1 rfl (Nat.le_of_ble_eq_true rfl) dX8_rides_49 ⟨Nat.zero_le _, Nat.zero_le _⟩ rfl (fun H locs hP hD hS => ?_)
      obtain ⟨rfl, rfl⟩ := z_inj2 hf
      exact z_iret X hr hlk hP hD hS dX8_rides_52
    have hf := ite_f hf c6
    by_cases c10 : x2 = 1
    · have hf := ite_t hf c10
      refine lv_tableIn (tgt := 53) X.1 X.2.1 dX8_rides_16 (by rw [c10]; decide) (by rw [c10]; decide) (by rw [c10]; rfl) (by decide) ?_
      refine lv_aload_n X.1 X.2.1 dX8_rides_53 rfl (lv_at hl 0 rfl) ?_
      refine z_get X hK hP hiX8 0 rfl rfl 3 (by decide) (bw_in W1_23) rfl dX8_rides_54 ?_
      refine lv_iload_n X.1 X.2.1 dX8_rides_57 rfl (lv_at hl 1 rfl) ?_
      obtain ⟨r11, hc12, hf⟩ := bd1_e hf
      have hp13 : List.Perm (wbALL K g z1 y0) ((wbX2 K (g 8) (z1 8) ++ (wbX4 K (g 8 0) (g 9) (z1 9))) ++ ([0, 1, 2, 3, 4, 5, 6, 7, 10, 11, 12, 13, 14].map (bfALL K g z1 y0)).flatten) := by rw [asc2]; exact wbALL_perm [8, 9, 0, 1, 2, 3, 4, 5, 6, 7, 10, 11, 12, 13, 14] (by decide)
      refine z_V (n := 1) (As := [.int x1]) (rest := []) (ci := 4) (q0 := 9) X hK hN (kX4_arrivesBehind l D K (g 8) (g 9) (z1 8) (z1 9) _ x1 r11 hc12) (bw_V W23_3 W23_4 W23_5 W1_22 W23_6) rfl ⟨rfl, rfl⟩ (by decide +kernel) rfl ⟨Nat.le_of_ble_eq_true rfl, Nat.le_of_ble_eq_true rfl⟩ (hP.perm hp13).lef (hD.perm hp13).lef rfl rfl (zj_perm (ws' := wbALL K g z1 y0) hP hD hS hA hp13 (by rw [asc2]; refine List.Perm.symm ?_; exact wbALL_perm [8, 9, 0, 1, 2, 3, 4, 5, 6, 7, 10, 11, 12, 13, 14] (by decide))) hS hl.1 rfl (Nat.le_of_ble_eq_true rfl) dX8_rides_58 ⟨Nat.zero_le _, Nat.zero_le _⟩ rfl (fun H locs hP hD hS => ?_)
      obtain ⟨rfl, rfl⟩ := z_inj2 hf
      exact z_iret X hr hlk hP hD hS dX8_rides_61
    have hf := ite_f hf c10
    by_cases c14 : x2 = 2
    · have hf := ite_t hf c14
      refine lv_tableIn (tgt := 62) X.1 X.2.1 dX8_rides_16 (by rw [c14]; decide) (by rw [c14]; decide) (by rw [c14]; rfl) (by decide) ?_
      refine lv_aload_n X.1 X.2.1 dX8_rides_62 rfl (lv_at hl 0 rfl) ?_
      refine z_get X hK hP hiX8 0 rfl rfl 3 (by decide) (bw_in W1_23) rfl dX8_rides_63 ?_
      refine lv_iload_n X.1 X.2.1 dX8_rides_66 rfl (lv_at hl 1 rfl) ?_
      obtain ⟨r15, hc16, hf⟩ := bd1_e hf
      have hp17 : List.Perm (wbALL K g z1 y0) ((wbX2 K (g 8) (z1 8) ++ (wbX4 K (g 8 0) (g 9) (z1 9))) ++ ([0, 1, 2, 3, 4, 5, 6, 7, 10, 11, 12, 13, 14].map (bfALL K g z1 y0)).flatten) := by rw [asc2]; exact wbALL_perm [8, 9, 0, 1, 2, 3, 4, 5, 6, 7, 10, 11, 12, 13, 14] (by decide)
      refine z_V (n := 1) (As := [.int x1]) (rest := []) (ci := 4) (q0 := 9) X hK hN (kX4_timesRefused l D K (g 8) (g 9) (z1 8) (z1 9) _ x1 r15 hc16) (bw_V W23_7 W23_8 W23_9 W1_22 W23_10) rfl ⟨rfl, rfl⟩ (by decide +kernel) rfl ⟨Nat.le_of_ble_eq_true rfl, Nat.le_of_ble_eq_true rfl⟩ (hP.perm hp17).lef (hD.perm hp17).lef rfl rfl (zj_perm (ws' := wbALL K g z1 y0) hP hD hS hA hp17 (by rw [asc2]; refine List.Perm.symm ?_; exact wbALL_perm [8, 9, 0, 1, 2, 3, 4, 5, 6, 7, 10, 11, 12, 13, 14] (by decide))) hS hl.1 rfl (Nat.le_of_ble_eq_true rfl) dX8_rides_67 ⟨Nat.zero_le _, Nat.zero_le _⟩ rfl (fun H locs hP hD hS => ?_)
      obtain ⟨rfl, rfl⟩ := z_inj2 hf
      exact z_iret X hr hlk hP hD hS dX8_rides_70
    have hf := ite_f hf c14
    refine lv_tableOut (tgt := 71) X.1 X.2.1 dX8_rides_16 (by have nc6 := lv_neT c6 (a := 0) (by decide); have nc10 := lv_neT c10 (a := 1) (by decide); have nc14 := lv_neT c14 (a := 2) (by decide); omega) (by decide) ?_
    refine lv_bipush (v := -2) X.1 X.2.1 dX8_rides_71 (by decide) ?_
    obtain ⟨rfl, rfl⟩ := z_inj2 hf
    exact z_iret X hr hlk hP hD hS dX8_rides_73
  · have hf := ite_f hf c5
    refine lv_bipush (v := -2) X.1 X.2.1 dX8_rides_12 (by decide) ?_
    obtain ⟨rfl, rfl⟩ := z_inj2 hf
    exact z_iret X hr hlk hP hD hS dX8_rides_14
abbrev rmX8_rider : Room := { frames := 5, cells := 0, slots := 0, locals := 118 }
set_option maxHeartbeats 4000000 in
set_option maxRecDepth 100000 in
theorem kX8_rider (l : Launch) (D : va_G) (K : Nat → ClassId) (g : Nat → Nat → Nat) (z0 : Nat → St) (y0 : Nat → Lt) (sz : Nat) (x1 : Int32) (x2 : Int32) (q_ : Int32) (z_ : Nat → St) (hf : fX8_rider z0 y0 x1 x2 = some (q_, z_)) : Met l yX8_rider (bw (Cond.code yX8_rider cX8_rider 3 (some .int))) rmX8_rider (va_Pc [.ref (g 0 0), .int x1, .int x2] (zB D K sz (wbALL K g z0 y0))) (zQ (some (.int q_)) D (va_A (wbALL K g z0 y0) sz) (wbALL K g z_ y0)) 0 0 (va_A (wbALL K g z0 y0) sz) := by
  refine z_of (cc := cX8_rider) (maxL := 3) (ret := (some .int)) (own := RX8) (lv := [(0, .ref (g 0 0)), (1, .int x1), (2, .int x2)]) (by decide) rfl rfl (Nat.le_of_ble_eq_true rfl) rfl ?_
  intro p e s m below meth c X hr hlk hK hN hsz hP hD hA hS hin ls hl
  generalize va_A (wbALL K g z0 y0) sz = A at hD hA hS hN ⊢
  have hiX2 : ∀ w ∈ u_ws RX2 TX2 14, w ∈ (bw (Cond.code yX8_rider cX8_rider 3 (some .int))) := fun w h => bw_in (inlX2 w h)
  have hiX8 : ∀ w ∈ u_ws RX8 TX8 11, w ∈ (bw (Cond.code yX8_rider cX8_rider 3 (some .int))) := fun w h => bw_in (inlX8 w h)
  rw [fX8_rider] at hf
  refine lv_aload_n X.1 X.2.1 dX8_rider_0 rfl (lv_at hl 0 rfl) ?_
  obtain ⟨z1, hc2, hf⟩ := bd1_e hf
  refine z_V (n := 0) (As := []) (rest := []) (ci := 8) (q0 := 0) X hK hN (kX8_freshen l D K g z0 y0 _ z1 hc2) (bw_V W11_14 W11_15 W11_16 W1_2 W11_17) rfl ⟨rfl, rfl⟩ (by decide +kernel) rfl ⟨Nat.le_of_ble_eq_true rfl, Nat.le_of_ble_eq_true rfl⟩ hP hD rfl rfl (zj_same hD hS hA) hS hl.1 rfl (Nat.le_of_ble_eq_true rfl) dX8_rider_1 ⟨Nat.zero_le _, Nat.zero_le _⟩ rfl (fun H locs hP hD hS => ?_)
  refine lv_aload_n X.1 X.2.1 dX8_rider_4 rfl (lv_at hl 0 rfl) ?_
  refine lv_iload_n X.1 X.2.1 dX8_rider_5 rfl (lv_at hl 1 rfl) ?_
  obtain ⟨r3, hc4, hf⟩ := bd1_e hf
  refine z_V (n := 1) (As := [.int x1]) (rest := []) (ci := 8) (q0 := 0) X hK hN (kX8_noSuchRider l D K g z1 y0 _ x1 r3 hc4) (bw_V W16_0 W16_1 W16_2 W1_2 W16_3) rfl ⟨rfl, rfl⟩ (by decide +kernel) rfl ⟨Nat.le_of_ble_eq_true rfl, Nat.le_of_ble_eq_true rfl⟩ hP hD rfl rfl (zj_same hD hS hA) hS hl.1 rfl (Nat.le_of_ble_eq_true rfl) dX8_rider_6 ⟨Nat.zero_le _, Nat.zero_le _⟩ rfl (fun H locs hP hD hS => ?_)
  refine lv_if_eq (tgt := 15) X.1 X.2.1 dX8_rider_9 (by decide) (fun c5 => ?_) (fun c5 => ?_)
  · have hf := ite_t hf c5
    refine lv_iload_n X.1 X.2.1 dX8_rider_15 rfl (lv_at hl 2 rfl) ?_
    by_cases c6 : x2 = 0
    · have hf := ite_t hf c6
      refine lv_tableIn (tgt := 44) X.1 X.2.1 dX8_rider_16 (by rw [c6]; decide) (by rw [c6]; decide) (by rw [c6]; rfl) (by decide) ?_
      refine lv_aload_n X.1 X.2.1 dX8_rider_44 rfl (lv_at hl 0 rfl) ?_
      refine z_get X hK hP hiX8 0 rfl rfl 2 (by decide) (bw_in W1_19) rfl dX8_rider_45 ?_
      refine z_get X hK hP hiX2 17 rfl rfl 6 (by decide) (bw_in W11_11) rfl dX8_rider_48 ?_
      refine lv_iload_n X.1 X.2.1 dX8_rider_51 rfl (lv_at hl 1 rfl) ?_
      obtain ⟨hi8, hf⟩ := chk_e hf
      obtain ⟨v7, ev7, hf⟩ := stp_e hf
      refine z_iald X hK hP 18 rfl hi8 ev7 dX8_rider_52 ?_
      obtain ⟨rfl, rfl⟩ := z_inj2 hf
      exact z_iret X hr hlk hP hD hS dX8_rider_53
    have hf := ite_f hf c6
    by_cases c9 : x2 = 1
    · have hf := ite_t hf c9
      refine lv_tableIn (tgt := 54) X.1 X.2.1 dX8_rider_16 (by rw [c9]; decide) (by rw [c9]; decide) (by rw [c9]; rfl) (by decide) ?_
      refine lv_aload_n X.1 X.2.1 dX8_rider_54 rfl (lv_at hl 0 rfl) ?_
      refine z_get X hK hP hiX8 0 rfl rfl 2 (by decide) (bw_in W1_19) rfl dX8_rider_55 ?_
      refine z_get X hK hP hiX2 17 rfl rfl 7 (by decide) (bw_in W11_12) rfl dX8_rider_58 ?_
      refine lv_iload_n X.1 X.2.1 dX8_rider_61 rfl (lv_at hl 1 rfl) ?_
      obtain ⟨hi11, hf⟩ := chk_e hf
      obtain ⟨v10, ev10, hf⟩ := stp_e hf
      refine z_iald X hK hP 19 rfl hi11 ev10 dX8_rider_62 ?_
      obtain ⟨rfl, rfl⟩ := z_inj2 hf
      exact z_iret X hr hlk hP hD hS dX8_rider_63
    have hf := ite_f hf c9
    by_cases c12 : x2 = 2
    · have hf := ite_t hf c12
      refine lv_tableIn (tgt := 64) X.1 X.2.1 dX8_rider_16 (by rw [c12]; decide) (by rw [c12]; decide) (by rw [c12]; rfl) (by decide) ?_
      refine lv_aload_n X.1 X.2.1 dX8_rider_64 rfl (lv_at hl 0 rfl) ?_
      refine z_get X hK hP hiX8 0 rfl rfl 2 (by decide) (bw_in W1_19) rfl dX8_rider_65 ?_
      refine z_get X hK hP hiX2 17 rfl rfl 8 (by decide) (bw_in W11_13) rfl dX8_rider_68 ?_
      refine lv_iload_n X.1 X.2.1 dX8_rider_71 rfl (lv_at hl 1 rfl) ?_
      obtain ⟨hi14, hf⟩ := chk_e hf
      obtain ⟨v13, ev13, hf⟩ := stp_e hf
      refine z_iald X hK hP 20 rfl hi14 ev13 dX8_rider_72 ?_
      obtain ⟨rfl, rfl⟩ := z_inj2 hf
      exact z_iret X hr hlk hP hD hS dX8_rider_73
    have hf := ite_f hf c12
    refine lv_tableOut (tgt := 74) X.1 X.2.1 dX8_rider_16 (by have nc6 := lv_neT c6 (a := 0) (by decide); have nc9 := lv_neT c9 (a := 1) (by decide); have nc12 := lv_neT c12 (a := 2) (by decide); omega) (by decide) ?_
    refine lv_bipush (v := -2) X.1 X.2.1 dX8_rider_74 (by decide) ?_
    obtain ⟨rfl, rfl⟩ := z_inj2 hf
    exact z_iret X hr hlk hP hD hS dX8_rider_76
  · have hf := ite_f hf c5
    refine lv_bipush (v := -2) X.1 X.2.1 dX8_rider_12 (by decide) ?_
    obtain ⟨rfl, rfl⟩ := z_inj2 hf
    exact z_iret X hr hlk hP hD hS dX8_rider_14
abbrev rmX8_mixRiders : Room := { frames := 6, cells := 0, slots := 0, locals := 140 }
set_option maxHeartbeats 4000000 in
set_option maxRecDepth 100000 in
theorem kX8_mixRiders (l : Launch) (D : va_G) (K : Nat → ClassId) (g : Nat → Nat → Nat) (z0 : Nat → St) (y0 : Nat → Lt) (sz : Nat) (x1 : Int64) (q_ : Int64) (z_ : Nat → St) (hf : fX8_mixRiders z0 y0 x1 = some (q_, z_)) : Met l yX8_mixRiders (bw (Cond.code yX8_mixRiders cX8_mixRiders 5 (some .long))) rmX8_mixRiders (va_Pc [.ref (g 0 0), .long x1] (zB D K sz (wbALL K g z0 y0))) (zQ (some (.long q_)) D (va_A (wbALL K g z0 y0) sz) (wbALL K g z_ y0)) 0 0 (va_A (wbALL K g z0 y0) sz) := by
  refine z_of (cc := cX8_mixRiders) (maxL := 5) (ret := (some .long)) (own := RX8) (lv := [(0, .ref (g 0 0)), (1, .long x1)]) (by decide) rfl rfl (Nat.le_of_ble_eq_true rfl) rfl ?_
  intro p e s m below meth c X hr hlk hK hN hsz hP hD hA hS hin ls hl
  generalize va_A (wbALL K g z0 y0) sz = A at hD hA hS hN ⊢
  have hiX2 : ∀ w ∈ u_ws RX2 TX2 14, w ∈ (bw (Cond.code yX8_mixRiders cX8_mixRiders 5 (some .long))) := fun w h => bw_in (inlX2 w h)
  have hiX8 : ∀ w ∈ u_ws RX8 TX8 11, w ∈ (bw (Cond.code yX8_mixRiders cX8_mixRiders 5 (some .long))) := fun w h => bw_in (inlX8 w h)
  have L44_2 : ∀ (rec2 : Int64 → Int32 → (Nat → St) → Option (Int64 × (Nat → St))) (hrec2 : ∀ (n2_0 : Int64) (n2_1 : Int32) (q2_Z : Nat → St), rec2 n2_0 n2_1 q2_Z = some ((q_, z_)) → ∀ (H : Heap) (locs : List Loc), va_P D vwCl (wbALL K g q2_Z y0) H → va_D A (wbALL K g q2_Z y0) → va_S A s.heap H locs → ∀ (ls : Array Slot), lv_has ls 5 [(0, .ref (g 0 0)), (1, .long n2_0), (3, .int n2_1)] → W p l e rmX8_mixRiders s m ([.ref (g 0 0), .long x1] : List Value).toArray below meth c H locs 0 0 (MQ below (zQ (some (.long q_)) D A (wbALL K g z_ y0)) ([.ref (g 0 0), .long x1] : List Value).toArray s 0 0 A) (F0 m 2 ls [])), ∀ (n : Nat), ∀ (n44_0 : Int64) (n44_1 : Int32) (n44_2 : Int32) (q44_Z : Nat → St), fX8_mixRiders_44 y0 rec2 n n44_0 n44_1 n44_2 q44_Z = some ((q_, z_)) → ∀ (H : Heap) (locs : List Loc), va_P D vwCl (wbALL K g q44_Z y0) H → va_D A (wbALL K g q44_Z y0) → va_S A s.heap H locs → ∀ (ls : Array Slot), lv_has ls 5 [(0, .ref (g 0 0)), (1, .long n44_0), (3, .int n44_1), (4, .int n44_2)] → W p l e rmX8_mixRiders s m ([.ref (g 0 0), .long x1] : List Value).toArray below meth c H locs 0 0 (MQ below (zQ (some (.long q_)) D A (wbALL K g z_ y0)) ([.ref (g 0 0), .long x1] : List Value).toArray s 0 0 A) (F0 m 44 ls []) := by
    intro rec2 hrec2 n
    induction n with
    | zero =>
      intro n44_0 n44_1 n44_2 q44_Z hf
      rw [fX8_mixRiders_44] at hf
      cases hf
    | succ n ih =>
      intro n44_0 n44_1 n44_2 q44_Z hf H locs hP hD hS ls hl
      rw [fX8_mixRiders_44] at hf
      refine lv_iload X.1 X.2.1 dX8_mixRiders_44 (lv_at hl 3 rfl) ?_
      refine lv_iconst (v := 3) X.1 X.2.1 dX8_mixRiders_46 (by decide) ?_
      refine lv_icmp_ge (tgt := 69) X.1 X.2.1 dX8_mixRiders_47 (by decide) (fun c3 => ?_) (fun c3 => ?_)
      · have hf := ite_t hf c3
        refine lv_lload_n X.1 X.2.1 dX8_mixRiders_69 rfl (lv_at hl 1 rfl) ?_
        refine lv_aload_n X.1 X.2.1 dX8_mixRiders_70 rfl (lv_at hl 0 rfl) ?_
        refine lv_iload_n X.1 X.2.1 dX8_mixRiders_71 rfl (lv_at hl 2 rfl) ?_
        refine lv_iconst (v := 0) X.1 X.2.1 dX8_mixRiders_72 (by decide) ?_
        obtain ⟨r4, z5, hc6, hf⟩ := bd2_e hf
        refine z_V (n := 2) (As := [.int n44_1, .int 0]) (rest := [.long n44_0]) (ci := 8) (q0 := 0) X hK hN (kX8_knows l D K g q44_Z y0 _ n44_1 0 r4 z5 hc6) (bw_V W43_5 W25_14 W25_15 W1_2 W25_16) rfl ⟨rfl, rfl⟩ (by decide +kernel) rfl ⟨Nat.le_of_ble_eq_true rfl, Nat.le_of_ble_eq_true rfl⟩ hP hD rfl rfl (zj_same hD hS hA) hS hl.1 rfl (Nat.le_of_ble_eq_true rfl) dX8_mixRiders_73 ⟨Nat.zero_le _, Nat.zero_le _⟩ rfl (fun H locs hP hD hS => ?_)
        refine lv_i2l X.1 X.2.1 dX8_mixRiders_76 rfl ?_
        obtain ⟨r7, hc8, hf⟩ := bd1_e hf
        refine z_S (n := 2) (As := [.long n44_0, .long ((r4 : Int32).toInt64)]) (rest := []) X hK hN (kX8_mix l D K _ n44_0 ((r4 : Int32).toInt64) r7 hc8) (bw_S W42_18 W42_19 W1_2 W42_20) rfl ⟨rfl, rfl⟩ (by decide +kernel) rfl ⟨Nat.le_of_ble_eq_true rfl, Nat.le_of_ble_eq_true rfl⟩ (fun _ _ h => by simp at h) ⟨fun _ _ _ _ h => by simp at h, fun _ _ h => by simp at h⟩ (zj_none hP hD hS hA) hS hl.1 rfl (Nat.le_of_ble_eq_true rfl) dX8_mixRiders_77 ⟨Nat.zero_le _, Nat.zero_le _⟩ rfl (fun H locs hP hD hS => ?_)
        refine lv_aload_n X.1 X.2.1 dX8_mixRiders_80 rfl (lv_at hl 0 rfl) ?_
        refine lv_iload_n X.1 X.2.1 dX8_mixRiders_81 rfl (lv_at hl 2 rfl) ?_
        refine lv_iconst (v := 1) X.1 X.2.1 dX8_mixRiders_82 (by decide) ?_
        obtain ⟨r9, z10, hc11, hf⟩ := bd2_e hf
        refine z_V (n := 2) (As := [.int n44_1, .int 1]) (rest := [.long r7]) (ci := 8) (q0 := 0) X hK hN (kX8_knows l D K g z5 y0 _ n44_1 1 r9 z10 hc11) (bw_V W43_5 W25_14 W25_15 W1_2 W25_16) rfl ⟨rfl, rfl⟩ (by decide +kernel) rfl ⟨Nat.le_of_ble_eq_true rfl, Nat.le_of_ble_eq_true rfl⟩ hP hD rfl rfl (zj_same hD hS hA) hS hl.1 rfl (Nat.le_of_ble_eq_true rfl) dX8_mixRiders_83 ⟨Nat.zero_le _, Nat.zero_le _⟩ rfl (fun H locs hP hD hS => ?_)
        refine lv_i2l X.1 X.2.1 dX8_mixRiders_86 rfl ?_
        obtain ⟨r12, hc13, hf⟩ := bd1_e hf
        refine z_S (n := 2) (As := [.long r7, .long ((r9 : Int32).toInt64)]) (rest := []) X hK hN (kX8_mix l D K _ r7 ((r9 : Int32).toInt64) r12 hc13) (bw_S W42_18 W42_19 W1_2 W42_20) rfl ⟨rfl, rfl⟩ (by decide +kernel) rfl ⟨Nat.le_of_ble_eq_true rfl, Nat.le_of_ble_eq_true rfl⟩ (fun _ _ h => by simp at h) ⟨fun _ _ _ _ h => by simp at h, fun _ _ h => by simp at h⟩ (zj_none hP hD hS hA) hS hl.1 rfl (Nat.le_of_ble_eq_true rfl) dX8_mixRiders_87 ⟨Nat.zero_le _, Nat.zero_le _⟩ rfl (fun H locs hP hD hS => ?_)
        refine lv_lstore_n (lv' := [(1, .long r12), (0, .ref (g 0 0)), (3, .int n44_1), (4, .int n44_2)]) X.1 X.2.1 dX8_mixRiders_90 rfl hl (by decide) rfl (fun ls hl => ?_)
        obtain ⟨w14, ew14, hf⟩ := stp_e hf
        refine lv_iinc (v := w14) (lv' := [(3, .int w14), (1, .long r12), (0, .ref (g 0 0)), (4, .int n44_2)]) X.1 X.2.1 dX8_mixRiders_91 hl (k := 2) rfl (by rw [ew14]; rfl) (by decide) rfl (fun ls hl => ?_)
        refine lv_goto (tgt := 2) X.1 X.2.1 dX8_mixRiders_94 (by decide) ?_
        exact hrec2 _ _ _ hf _ _ hP hD hS _ (lv_sub hl [2, 1, 0] rfl)
      · have hf := ite_f hf c3
        refine lv_lload_n X.1 X.2.1 dX8_mixRiders_50 rfl (lv_at hl 1 rfl) ?_
        refine lv_aload_n X.1 X.2.1 dX8_mixRiders_51 rfl (lv_at hl 0 rfl) ?_
        refine lv_iload_n X.1 X.2.1 dX8_mixRiders_52 rfl (lv_at hl 2 rfl) ?_
        refine lv_iload X.1 X.2.1 dX8_mixRiders_53 (lv_at hl 3 rfl) ?_
        obtain ⟨r15, z16, hc17, hf⟩ := bd2_e hf
        refine z_V (n := 2) (As := [.int n44_1, .int n44_2]) (rest := [.long n44_0]) (ci := 8) (q0 := 0) X hK hN (kX8_rides l D K g q44_Z y0 _ n44_1 n44_2 r15 z16 hc17) (bw_V W43_4 W22_20 W22_21 W1_2 W22_22) rfl ⟨rfl, rfl⟩ (by decide +kernel) rfl ⟨Nat.le_of_ble_eq_true rfl, Nat.le_of_ble_eq_true rfl⟩ hP hD rfl rfl (zj_same hD hS hA) hS hl.1 rfl (Nat.le_of_ble_eq_true rfl) dX8_mixRiders_55 ⟨Nat.zero_le _, Nat.zero_le _⟩ rfl (fun H locs hP hD hS => ?_)
        refine lv_i2l X.1 X.2.1 dX8_mixRiders_58 rfl ?_
        obtain ⟨r18, hc19, hf⟩ := bd1_e hf
        refine z_S (n := 2) (As := [.long n44_0, .long ((r15 : Int32).toInt64)]) (rest := []) X hK hN (kX8_mix l D K _ n44_0 ((r15 : Int32).toInt64) r18 hc19) (bw_S W42_18 W42_19 W1_2 W42_20) rfl ⟨rfl, rfl⟩ (by decide +kernel) rfl ⟨Nat.le_of_ble_eq_true rfl, Nat.le_of_ble_eq_true rfl⟩ (fun _ _ h => by simp at h) ⟨fun _ _ _ _ h => by simp at h, fun _ _ h => by simp at h⟩ (zj_none hP hD hS hA) hS hl.1 rfl (Nat.le_of_ble_eq_true rfl) dX8_mixRiders_59 ⟨Nat.zero_le _, Nat.zero_le _⟩ rfl (fun H locs hP hD hS => ?_)
        refine lv_lstore_n (lv' := [(1, .long r18), (0, .ref (g 0 0)), (3, .int n44_1), (4, .int n44_2)]) X.1 X.2.1 dX8_mixRiders_62 rfl hl (by decide) rfl (fun ls hl => ?_)
        obtain ⟨w20, ew20, hf⟩ := stp_e hf
        refine lv_iinc (v := w20) (lv' := [(4, .int w20), (1, .long r18), (0, .ref (g 0 0)), (3, .int n44_1)]) X.1 X.2.1 dX8_mixRiders_63 hl (k := 3) rfl (by rw [ew20]; rfl) (by decide) rfl (fun ls hl => ?_)
        refine lv_goto (tgt := 44) X.1 X.2.1 dX8_mixRiders_66 (by decide) ?_
        exact ih _ _ _ _ hf _ _ hP hD hS _ (lv_sub hl [2, 1, 3, 0] rfl)
  have L16_1 : ∀ (rec2 : Int64 → Int32 → (Nat → St) → Option (Int64 × (Nat → St))) (hrec2 : ∀ (n2_0 : Int64) (n2_1 : Int32) (q2_Z : Nat → St), rec2 n2_0 n2_1 q2_Z = some ((q_, z_)) → ∀ (H : Heap) (locs : List Loc), va_P D vwCl (wbALL K g q2_Z y0) H → va_D A (wbALL K g q2_Z y0) → va_S A s.heap H locs → ∀ (ls : Array Slot), lv_has ls 5 [(0, .ref (g 0 0)), (1, .long n2_0), (3, .int n2_1)] → W p l e rmX8_mixRiders s m ([.ref (g 0 0), .long x1] : List Value).toArray below meth c H locs 0 0 (MQ below (zQ (some (.long q_)) D A (wbALL K g z_ y0)) ([.ref (g 0 0), .long x1] : List Value).toArray s 0 0 A) (F0 m 2 ls [])), ∀ (n : Nat), ∀ (n16_0 : Int64) (n16_1 : Int32) (n16_2 : Int32) (q16_Z : Nat → St), fX8_mixRiders_16 y0 rec2 n n16_0 n16_1 n16_2 q16_Z = some ((q_, z_)) → ∀ (H : Heap) (locs : List Loc), va_P D vwCl (wbALL K g q16_Z y0) H → va_D A (wbALL K g q16_Z y0) → va_S A s.heap H locs → ∀ (ls : Array Slot), lv_has ls 5 [(0, .ref (g 0 0)), (1, .long n16_0), (3, .int n16_1), (4, .int n16_2)] → W p l e rmX8_mixRiders s m ([.ref (g 0 0), .long x1] : List Value).toArray below meth c H locs 0 0 (MQ below (zQ (some (.long q_)) D A (wbALL K g z_ y0)) ([.ref (g 0 0), .long x1] : List Value).toArray s 0 0 A) (F0 m 16 ls []) := by
    intro rec2 hrec2 n
    induction n with
    | zero =>
      intro n16_0 n16_1 n16_2 q16_Z hf
      rw [fX8_mixRiders_16] at hf
      cases hf
    | succ n ih =>
      intro n16_0 n16_1 n16_2 q16_Z hf H locs hP hD hS ls hl
      rw [fX8_mixRiders_16] at hf
      refine lv_iload X.1 X.2.1 dX8_mixRiders_16 (lv_at hl 3 rfl) ?_
      refine lv_iconst (v := 3) X.1 X.2.1 dX8_mixRiders_18 (by decide) ?_
      refine lv_icmp_ge (tgt := 41) X.1 X.2.1 dX8_mixRiders_19 (by decide) (fun c2 => ?_) (fun c2 => ?_)
      · have hf := ite_t hf c2
        refine lv_iconst (v := 0) X.1 X.2.1 dX8_mixRiders_41 (by decide) ?_
        refine lv_istore (lv' := [(4, .int 0), (0, .ref (g 0 0)), (1, .long n16_0), (3, .int n16_1)]) X.1 X.2.1 dX8_mixRiders_42 hl (by decide) rfl (fun ls hl => ?_)
        exact L44_2 _ hrec2 _ _ _ _ _ hf _ _ hP hD hS _ (lv_sub hl [1, 2, 3, 0] rfl)
      · have hf := ite_f hf c2
        refine lv_lload_n X.1 X.2.1 dX8_mixRiders_22 rfl (lv_at hl 1 rfl) ?_
        refine lv_aload_n X.1 X.2.1 dX8_mixRiders_23 rfl (lv_at hl 0 rfl) ?_
        refine lv_iload_n X.1 X.2.1 dX8_mixRiders_24 rfl (lv_at hl 2 rfl) ?_
        refine lv_iload X.1 X.2.1 dX8_mixRiders_25 (lv_at hl 3 rfl) ?_
        obtain ⟨r21, z22, hc23, hf⟩ := bd2_e hf
        refine z_V (n := 2) (As := [.int n16_1, .int n16_2]) (rest := [.long n16_0]) (ci := 8) (q0 := 0) X hK hN (kX8_rider l D K g q16_Z y0 _ n16_1 n16_2 r21 z22 hc23) (bw_V W43_3 W11_8 W11_9 W1_2 W11_10) rfl ⟨rfl, rfl⟩ (by decide +kernel) rfl ⟨Nat.le_of_ble_eq_true rfl, Nat.le_of_ble_eq_true rfl⟩ hP hD rfl rfl (zj_same hD hS hA) hS hl.1 rfl (Nat.le_of_ble_eq_true rfl) dX8_mixRiders_27 ⟨Nat.zero_le _, Nat.zero_le _⟩ rfl (fun H locs hP hD hS => ?_)
        refine lv_i2l X.1 X.2.1 dX8_mixRiders_30 rfl ?_
        obtain ⟨r24, hc25, hf⟩ := bd1_e hf
        refine z_S (n := 2) (As := [.long n16_0, .long ((r21 : Int32).toInt64)]) (rest := []) X hK hN (kX8_mix l D K _ n16_0 ((r21 : Int32).toInt64) r24 hc25) (bw_S W42_18 W42_19 W1_2 W42_20) rfl ⟨rfl, rfl⟩ (by decide +kernel) rfl ⟨Nat.le_of_ble_eq_true rfl, Nat.le_of_ble_eq_true rfl⟩ (fun _ _ h => by simp at h) ⟨fun _ _ _ _ h => by simp at h, fun _ _ h => by simp at h⟩ (zj_none hP hD hS hA) hS hl.1 rfl (Nat.le_of_ble_eq_true rfl) dX8_mixRiders_31 ⟨Nat.zero_le _, Nat.zero_le _⟩ rfl (fun H locs hP hD hS => ?_)
        refine lv_lstore_n (lv' := [(1, .long r24), (0, .ref (g 0 0)), (3, .int n16_1), (4, .int n16_2)]) X.1 X.2.1 dX8_mixRiders_34 rfl hl (by decide) rfl (fun ls hl => ?_)
        obtain ⟨w26, ew26, hf⟩ := stp_e hf
        refine lv_iinc (v := w26) (lv' := [(4, .int w26), (1, .long r24), (0, .ref (g 0 0)), (3, .int n16_1)]) X.1 X.2.1 dX8_mixRiders_35 hl (k := 3) rfl (by rw [ew26]; rfl) (by decide) rfl (fun ls hl => ?_)
        refine lv_goto (tgt := 16) X.1 X.2.1 dX8_mixRiders_38 (by decide) ?_
        exact ih _ _ _ _ hf _ _ hP hD hS _ (lv_sub hl [2, 1, 3, 0] rfl)
  have L2_0 : ∀ (n : Nat), ∀ (n2_0 : Int64) (n2_1 : Int32) (q2_Z : Nat → St), fX8_mixRiders_2 y0 n n2_0 n2_1 q2_Z = some ((q_, z_)) → ∀ (H : Heap) (locs : List Loc), va_P D vwCl (wbALL K g q2_Z y0) H → va_D A (wbALL K g q2_Z y0) → va_S A s.heap H locs → ∀ (ls : Array Slot), lv_has ls 5 [(0, .ref (g 0 0)), (1, .long n2_0), (3, .int n2_1)] → W p l e rmX8_mixRiders s m ([.ref (g 0 0), .long x1] : List Value).toArray below meth c H locs 0 0 (MQ below (zQ (some (.long q_)) D A (wbALL K g z_ y0)) ([.ref (g 0 0), .long x1] : List Value).toArray s 0 0 A) (F0 m 2 ls []) := by
    intro n
    induction n with
    | zero =>
      intro n2_0 n2_1 q2_Z hf
      rw [fX8_mixRiders_2] at hf
      cases hf
    | succ n ih =>
      intro n2_0 n2_1 q2_Z hf H locs hP hD hS ls hl
      rw [fX8_mixRiders_2] at hf
      refine lv_iload_n X.1 X.2.1 dX8_mixRiders_2 rfl (lv_at hl 2 rfl) ?_
      refine lv_aload_n X.1 X.2.1 dX8_mixRiders_3 rfl (lv_at hl 0 rfl) ?_
      refine z_get X hK hP hiX8 0 rfl rfl 2 (by decide) (bw_in W1_19) rfl dX8_mixRiders_4 ?_
      refine z_get X hK hP hiX2 17 rfl rfl 2 (by decide) (bw_in W16_4) rfl dX8_mixRiders_7 ?_
      refine lv_icmp_ge (tgt := 97) X.1 X.2.1 dX8_mixRiders_10 (by decide) (fun c1 => ?_) (fun c1 => ?_)
      · have hf := ite_t hf c1
        refine lv_lload_n X.1 X.2.1 dX8_mixRiders_97 rfl (lv_at hl 1 rfl) ?_
        obtain ⟨rfl, rfl⟩ := z_inj2 hf
        exact z_lret X hr hlk hP hD hS dX8_mixRiders_98
      · have hf := ite_f hf c1
        refine lv_iconst (v := 0) X.1 X.2.1 dX8_mixRiders_13 (by decide) ?_
        refine lv_istore (lv' := [(4, .int 0), (0, .ref (g 0 0)), (1, .long n2_0), (3, .int n2_1)]) X.1 X.2.1 dX8_mixRiders_14 hl (by decide) rfl (fun ls hl => ?_)
        exact L16_1 _ ih _ _ _ _ _ hf _ _ hP hD hS _ (lv_sub hl [1, 2, 3, 0] rfl)
  rw [fX8_mixRiders] at hf
  refine lv_iconst (v := 0) X.1 X.2.1 dX8_mixRiders_0 (by decide) ?_
  refine lv_istore_n (lv' := [(3, .int 0), (0, .ref (g 0 0)), (1, .long x1)]) X.1 X.2.1 dX8_mixRiders_1 rfl hl (by decide) rfl (fun ls hl => ?_)
  exact L2_0  _ _ _ _ hf _ _ hP hD hS _ (lv_sub hl [1, 2, 0] rfl)
abbrev rmX8_noSuchLeaver : Room := { frames := 0, cells := 0, slots := 0, locals := 0 }
set_option maxHeartbeats 4000000 in
set_option maxRecDepth 100000 in
theorem kX8_noSuchLeaver (l : Launch) (D : va_G) (K : Nat → ClassId) (g : Nat → Nat → Nat) (z0 : Nat → St) (y0 : Nat → Lt) (sz : Nat) (x1 : Int32) (q_ : Int32) (hf : fX8_noSuchLeaver z0 y0 x1 = some q_) : Met l yX8_noSuchLeaver (bw (Cond.code yX8_noSuchLeaver cX8_noSuchLeaver 2 (some .boolean))) rmX8_noSuchLeaver (va_Pc [.ref (g 0 0), .int x1] (zB D K sz (wbALL K g z0 y0))) (zQ (some (.int q_)) D (va_A (wbALL K g z0 y0) sz) (wbALL K g z0 y0)) 0 0 (va_A (wbALL K g z0 y0) sz) := by
  refine z_of (cc := cX8_noSuchLeaver) (maxL := 2) (ret := (some .boolean)) (own := RX8) (lv := [(0, .ref (g 0 0)), (1, .int x1)]) (by decide) rfl rfl (Nat.le_of_ble_eq_true rfl) rfl ?_
  intro p e s m below meth c X hr hlk hK hN hsz hP hD hA hS hin ls hl
  generalize va_A (wbALL K g z0 y0) sz = A at hD hA hS hN ⊢
  have hiX2 : ∀ w ∈ u_ws RX2 TX2 14, w ∈ (bw (Cond.code yX8_noSuchLeaver cX8_noSuchLeaver 2 (some .boolean))) := fun w h => bw_in (inlX2 w h)
  have hiX8 : ∀ w ∈ u_ws RX8 TX8 11, w ∈ (bw (Cond.code yX8_noSuchLeaver cX8_noSuchLeaver 2 (some .boolean))) := fun w h => bw_in (inlX8 w h)
  rw [fX8_noSuchLeaver] at hf
  refine lv_iload_n X.1 X.2.1 dX8_noSuchLeaver_0 rfl (lv_at hl 1 rfl) ?_
  refine lv_if_lt (tgt := 15) X.1 X.2.1 dX8_noSuchLeaver_1 (by decide) (fun c1 => ?_) (fun c1 => ?_)
  · have hf := ite_t hf c1
    refine lv_iconst (v := 1) X.1 X.2.1 dX8_noSuchLeaver_15 (by decide) ?_
    refine lv_goto (tgt := 20) X.1 X.2.1 dX8_noSuchLeaver_16 (by decide) ?_
    obtain rfl := z_inj1 hf
    exact z_zret X hr hlk (by decide) hP hD hS dX8_noSuchLeaver_20
  · have hf := ite_f hf c1
    refine lv_iload_n X.1 X.2.1 dX8_noSuchLeaver_4 rfl (lv_at hl 1 rfl) ?_
    refine lv_aload_n X.1 X.2.1 dX8_noSuchLeaver_5 rfl (lv_at hl 0 rfl) ?_
    refine z_get X hK hP hiX8 0 rfl rfl 2 (by decide) (bw_in W1_19) rfl dX8_noSuchLeaver_6 ?_
    refine z_get X hK hP hiX2 17 rfl rfl 3 (by decide) (bw_in W17_7) rfl dX8_noSuchLeaver_9 ?_
    refine lv_icmp_lt (tgt := 19) X.1 X.2.1 dX8_noSuchLeaver_12 (by decide) (fun c2 => ?_) (fun c2 => ?_)
    · have hf := ite_t hf c2
      refine lv_iconst (v := 0) X.1 X.2.1 dX8_noSuchLeaver_19 (by decide) ?_
      obtain rfl := z_inj1 hf
      exact z_zret X hr hlk (by decide) hP hD hS dX8_noSuchLeaver_20
    · have hf := ite_f hf c2
      refine lv_iconst (v := 1) X.1 X.2.1 dX8_noSuchLeaver_15 (by decide) ?_
      refine lv_goto (tgt := 20) X.1 X.2.1 dX8_noSuchLeaver_16 (by decide) ?_
      obtain rfl := z_inj1 hf
      exact z_zret X hr hlk (by decide) hP hD hS dX8_noSuchLeaver_20
abbrev rmX8_leaver : Room := { frames := 5, cells := 0, slots := 0, locals := 118 }
set_option maxHeartbeats 4000000 in
set_option maxRecDepth 100000 in
theorem kX8_leaver (l : Launch) (D : va_G) (K : Nat → ClassId) (g : Nat → Nat → Nat) (z0 : Nat → St) (y0 : Nat → Lt) (sz : Nat) (x1 : Int32) (x2 : Int32) (q_ : Int32) (z_ : Nat → St) (hf : fX8_leaver z0 y0 x1 x2 = some (q_, z_)) : Met l yX8_leaver (bw (Cond.code yX8_leaver cX8_leaver 3 (some .int))) rmX8_leaver (va_Pc [.ref (g 0 0), .int x1, .int x2] (zB D K sz (wbALL K g z0 y0))) (zQ (some (.int q_)) D (va_A (wbALL K g z0 y0) sz) (wbALL K g z_ y0)) 0 0 (va_A (wbALL K g z0 y0) sz) := by
  refine z_of (cc := cX8_leaver) (maxL := 3) (ret := (some .int)) (own := RX8) (lv := [(0, .ref (g 0 0)), (1, .int x1), (2, .int x2)]) (by decide) rfl rfl (Nat.le_of_ble_eq_true rfl) rfl ?_
  intro p e s m below meth c X hr hlk hK hN hsz hP hD hA hS hin ls hl
  generalize va_A (wbALL K g z0 y0) sz = A at hD hA hS hN ⊢
  have hiX2 : ∀ w ∈ u_ws RX2 TX2 14, w ∈ (bw (Cond.code yX8_leaver cX8_leaver 3 (some .int))) := fun w h => bw_in (inlX2 w h)
  have hiX8 : ∀ w ∈ u_ws RX8 TX8 11, w ∈ (bw (Cond.code yX8_leaver cX8_leaver 3 (some .int))) := fun w h => bw_in (inlX8 w h)
  rw [fX8_leaver] at hf
  refine lv_aload_n X.1 X.2.1 dX8_leaver_0 rfl (lv_at hl 0 rfl) ?_
  obtain ⟨z1, hc2, hf⟩ := bd1_e hf
  refine z_V (n := 0) (As := []) (rest := []) (ci := 8) (q0 := 0) X hK hN (kX8_freshen l D K g z0 y0 _ z1 hc2) (bw_V W11_14 W11_15 W11_16 W1_2 W11_17) rfl ⟨rfl, rfl⟩ (by decide +kernel) rfl ⟨Nat.le_of_ble_eq_true rfl, Nat.le_of_ble_eq_true rfl⟩ hP hD rfl rfl (zj_same hD hS hA) hS hl.1 rfl (Nat.le_of_ble_eq_true rfl) dX8_leaver_1 ⟨Nat.zero_le _, Nat.zero_le _⟩ rfl (fun H locs hP hD hS => ?_)
  refine lv_aload_n X.1 X.2.1 dX8_leaver_4 rfl (lv_at hl 0 rfl) ?_
  refine lv_iload_n X.1 X.2.1 dX8_leaver_5 rfl (lv_at hl 1 rfl) ?_
  obtain ⟨r3, hc4, hf⟩ := bd1_e hf
  refine z_V (n := 1) (As := [.int x1]) (rest := []) (ci := 8) (q0 := 0) X hK hN (kX8_noSuchLeaver l D K g z1 y0 _ x1 r3 hc4) (bw_V W17_3 W17_4 W17_5 W1_2 W17_6) rfl ⟨rfl, rfl⟩ (by decide +kernel) rfl ⟨Nat.le_of_ble_eq_true rfl, Nat.le_of_ble_eq_true rfl⟩ hP hD rfl rfl (zj_same hD hS hA) hS hl.1 rfl (Nat.le_of_ble_eq_true rfl) dX8_leaver_6 ⟨Nat.zero_le _, Nat.zero_le _⟩ rfl (fun H locs hP hD hS => ?_)
  refine lv_if_eq (tgt := 15) X.1 X.2.1 dX8_leaver_9 (by decide) (fun c5 => ?_) (fun c5 => ?_)
  · have hf := ite_t hf c5
    refine lv_iload_n X.1 X.2.1 dX8_leaver_15 rfl (lv_at hl 2 rfl) ?_
    by_cases c6 : x2 = 0
    · have hf := ite_t hf c6
      refine lv_lookup (off := 28) (tgt := 44) X.1 X.2.1 dX8_leaver_16 (by decide) (by rw [c6] <;> rfl) (by decide) ?_
      refine lv_aload_n X.1 X.2.1 dX8_leaver_44 rfl (lv_at hl 0 rfl) ?_
      refine z_get X hK hP hiX8 0 rfl rfl 2 (by decide) (bw_in W1_19) rfl dX8_leaver_45 ?_
      refine z_get X hK hP hiX2 17 rfl rfl 9 (by decide) (bw_in W17_1) rfl dX8_leaver_48 ?_
      refine lv_iload_n X.1 X.2.1 dX8_leaver_51 rfl (lv_at hl 1 rfl) ?_
      obtain ⟨hi8, hf⟩ := chk_e hf
      obtain ⟨v7, ev7, hf⟩ := stp_e hf
      refine z_iald X hK hP 21 rfl hi8 ev7 dX8_leaver_52 ?_
      obtain ⟨rfl, rfl⟩ := z_inj2 hf
      exact z_iret X hr hlk hP hD hS dX8_leaver_53
    have hf := ite_f hf c6
    by_cases c9 : x2 = 1
    · have hf := ite_t hf c9
      refine lv_lookup (off := 38) (tgt := 54) X.1 X.2.1 dX8_leaver_16 (by decide) (by rw [c9] <;> rfl) (by decide) ?_
      refine lv_aload_n X.1 X.2.1 dX8_leaver_54 rfl (lv_at hl 0 rfl) ?_
      refine z_get X hK hP hiX8 0 rfl rfl 2 (by decide) (bw_in W1_19) rfl dX8_leaver_55 ?_
      refine z_get X hK hP hiX2 17 rfl rfl 10 (by decide) (bw_in W17_2) rfl dX8_leaver_58 ?_
      refine lv_iload_n X.1 X.2.1 dX8_leaver_61 rfl (lv_at hl 1 rfl) ?_
      obtain ⟨hi11, hf⟩ := chk_e hf
      obtain ⟨v10, ev10, hf⟩ := stp_e hf
      refine z_iald X hK hP 22 rfl hi11 ev10 dX8_leaver_62 ?_
      obtain ⟨rfl, rfl⟩ := z_inj2 hf
      exact z_iret X hr hlk hP hD hS dX8_leaver_63
    have hf := ite_f hf c9
    refine lv_lookup (off := 48) (tgt := 64) X.1 X.2.1 dX8_leaver_16 (by decide) ((lv_osw c6 (by decide)).trans ((lv_osw c9 (by decide)).trans (rfl))) (by decide) ?_
    refine lv_bipush (v := -2) X.1 X.2.1 dX8_leaver_64 (by decide) ?_
    obtain ⟨rfl, rfl⟩ := z_inj2 hf
    exact z_iret X hr hlk hP hD hS dX8_leaver_66
  · have hf := ite_f hf c5
    refine lv_bipush (v := -2) X.1 X.2.1 dX8_leaver_12 (by decide) ?_
    obtain ⟨rfl, rfl⟩ := z_inj2 hf
    exact z_iret X hr hlk hP hD hS dX8_leaver_14
abbrev rmX8_who : Room := { frames := 5, cells := 0, slots := 0, locals := 121 }
set_option maxHeartbeats 4000000 in
set_option maxRecDepth 100000 in
theorem kX8_who (l : Launch) (D : va_G) (K : Nat → ClassId) (g : Nat → Nat → Nat) (z0 : Nat → St) (y0 : Nat → Lt) (sz : Nat) (x1 : Int32) (q_ : Int32) (z_ : Nat → St) (hf : fX8_who z0 y0 x1 = some (q_, z_)) : Met l yX8_who (bw (Cond.code yX8_who cX8_who 2 (some .int))) rmX8_who (va_Pc [.ref (g 0 0), .int x1] (zB D K sz (wbALL K g z0 y0))) (zQ (some (.int q_)) D (va_A (wbALL K g z0 y0) sz) (wbALL K g z_ y0)) 0 0 (va_A (wbALL K g z0 y0) sz) := by
  refine z_of (cc := cX8_who) (maxL := 2) (ret := (some .int)) (own := RX8) (lv := [(0, .ref (g 0 0)), (1, .int x1)]) (by decide) rfl rfl (Nat.le_of_ble_eq_true rfl) rfl ?_
  intro p e s m below meth c X hr hlk hK hN hsz hP hD hA hS hin ls hl
  generalize va_A (wbALL K g z0 y0) sz = A at hD hA hS hN ⊢
  have hiX8 : ∀ w ∈ u_ws RX8 TX8 11, w ∈ (bw (Cond.code yX8_who cX8_who 2 (some .int))) := fun w h => bw_in (inlX8 w h)
  rw [fX8_who] at hf
  refine lv_aload_n X.1 X.2.1 dX8_who_0 rfl (lv_at hl 0 rfl) ?_
  obtain ⟨z1, hc2, hf⟩ := bd1_e hf
  refine z_V (n := 0) (As := []) (rest := []) (ci := 8) (q0 := 0) X hK hN (kX8_freshen l D K g z0 y0 _ z1 hc2) (bw_V W11_14 W11_15 W11_16 W1_2 W11_17) rfl ⟨rfl, rfl⟩ (by decide +kernel) rfl ⟨Nat.le_of_ble_eq_true rfl, Nat.le_of_ble_eq_true rfl⟩ hP hD rfl rfl (zj_same hD hS hA) hS hl.1 rfl (Nat.le_of_ble_eq_true rfl) dX8_who_1 ⟨Nat.zero_le _, Nat.zero_le _⟩ rfl (fun H locs hP hD hS => ?_)
  refine lv_aload_n X.1 X.2.1 dX8_who_4 rfl (lv_at hl 0 rfl) ?_
  refine lv_iload_n X.1 X.2.1 dX8_who_5 rfl (lv_at hl 1 rfl) ?_
  obtain ⟨r3, hc4, hf⟩ := bd1_e hf
  refine z_V (n := 1) (As := [.int x1]) (rest := []) (ci := 8) (q0 := 0) X hK hN (kX8_noSuchLeaver l D K g z1 y0 _ x1 r3 hc4) (bw_V W17_3 W17_4 W17_5 W1_2 W17_6) rfl ⟨rfl, rfl⟩ (by decide +kernel) rfl ⟨Nat.le_of_ble_eq_true rfl, Nat.le_of_ble_eq_true rfl⟩ hP hD rfl rfl (zj_same hD hS hA) hS hl.1 rfl (Nat.le_of_ble_eq_true rfl) dX8_who_6 ⟨Nat.zero_le _, Nat.zero_le _⟩ rfl (fun H locs hP hD hS => ?_)
  refine lv_if_eq (tgt := 17) X.1 X.2.1 dX8_who_9 (by decide) (fun c5 => ?_) (fun c5 => ?_)
  · have hf := ite_t hf c5
    refine lv_aload_n X.1 X.2.1 dX8_who_17 rfl (lv_at hl 0 rfl) ?_
    refine z_get X hK hP hiX8 0 rfl rfl 8 (by decide) (bw_in W2_16) rfl dX8_who_18 ?_
    refine lv_iload_n X.1 X.2.1 dX8_who_21 rfl (lv_at hl 1 rfl) ?_
    obtain ⟨r6, r7, hc8, hf⟩ := bd2_e hf
    obtain ⟨z9, ez9, hf⟩ := stp_e hf
    have hp10 : List.Perm (wbALL K g z1 y0) ((wbX2 K (g 8) (z1 8) ++ (wbX4 K (g 8 0) (g 10) (z1 10) ++ (wbX6 K (g 13) (z1 13) ++ (wbX1 K (g 8 0) (g 10 0) (g 13 0) (g 14) (z1 14))))) ++ ([0, 1, 2, 3, 4, 5, 6, 7, 9, 11, 12].map (bfALL K g z1 y0)).flatten) := by rw [asc4]; exact wbALL_perm [8, 10, 13, 14, 0, 1, 2, 3, 4, 5, 6, 7, 9, 11, 12] (by decide)
    refine z_V (n := 1) (As := [.int x1]) (rest := []) (ci := 1) (q0 := 22) X hK hN (kX1_whoElse l D K (g 8) (g 10) (g 13) (g 14) (z1 8) (z1 10) (z1 13) (z1 14) _ x1 r6 r7 hc8) (bw_V W34_3 W34_4 W34_5 W2_15 W34_6) rfl ⟨rfl, rfl⟩ (by decide +kernel) rfl ⟨Nat.le_of_ble_eq_true rfl, Nat.le_of_ble_eq_true rfl⟩ (hP.perm hp10).lef (hD.perm hp10).lef rfl rfl (zj_perm (ws' := wbALL K g z9 y0) hP hD hS hA hp10 (by rw [ez9, asc4]; refine List.Perm.symm ?_; exact wbALL_perm [8, 10, 13, 14, 0, 1, 2, 3, 4, 5, 6, 7, 9, 11, 12] (by decide))) hS hl.1 rfl (Nat.le_of_ble_eq_true rfl) dX8_who_22 ⟨Nat.zero_le _, Nat.zero_le _⟩ rfl (fun H locs hP hD hS => ?_)
    obtain ⟨rfl, rfl⟩ := z_inj2 hf
    exact z_iret X hr hlk hP hD hS dX8_who_25
  · have hf := ite_f hf c5
    refine lv_bipush (v := -2) X.1 X.2.1 dX8_who_12 (by decide) ?_
    refine lv_goto (tgt := 25) X.1 X.2.1 dX8_who_14 (by decide) ?_
    obtain ⟨rfl, rfl⟩ := z_inj2 hf
    exact z_iret X hr hlk hP hD hS dX8_who_25
abbrev rmX8_mixLeavers : Room := { frames := 6, cells := 0, slots := 0, locals := 142 }
set_option maxHeartbeats 4000000 in
set_option maxRecDepth 100000 in
theorem kX8_mixLeavers (l : Launch) (D : va_G) (K : Nat → ClassId) (g : Nat → Nat → Nat) (z0 : Nat → St) (y0 : Nat → Lt) (sz : Nat) (x1 : Int64) (q_ : Int64) (z_ : Nat → St) (hf : fX8_mixLeavers z0 y0 x1 = some (q_, z_)) : Met l yX8_mixLeavers (bw (Cond.code yX8_mixLeavers cX8_mixLeavers 4 (some .long))) rmX8_mixLeavers (va_Pc [.ref (g 0 0), .long x1] (zB D K sz (wbALL K g z0 y0))) (zQ (some (.long q_)) D (va_A (wbALL K g z0 y0) sz) (wbALL K g z_ y0)) 0 0 (va_A (wbALL K g z0 y0) sz) := by
  refine z_of (cc := cX8_mixLeavers) (maxL := 4) (ret := (some .long)) (own := RX8) (lv := [(0, .ref (g 0 0)), (1, .long x1)]) (by decide) rfl rfl (Nat.le_of_ble_eq_true rfl) rfl ?_
  intro p e s m below meth c X hr hlk hK hN hsz hP hD hA hS hin ls hl
  generalize va_A (wbALL K g z0 y0) sz = A at hD hA hS hN ⊢
  have hiX2 : ∀ w ∈ u_ws RX2 TX2 14, w ∈ (bw (Cond.code yX8_mixLeavers cX8_mixLeavers 4 (some .long))) := fun w h => bw_in (inlX2 w h)
  have hiX8 : ∀ w ∈ u_ws RX8 TX8 11, w ∈ (bw (Cond.code yX8_mixLeavers cX8_mixLeavers 4 (some .long))) := fun w h => bw_in (inlX8 w h)
  have L2_0 : ∀ (n : Nat), ∀ (n2_0 : Int64) (n2_1 : Int32) (q2_Z : Nat → St), fX8_mixLeavers_2 y0 n n2_0 n2_1 q2_Z = some ((q_, z_)) → ∀ (H : Heap) (locs : List Loc), va_P D vwCl (wbALL K g q2_Z y0) H → va_D A (wbALL K g q2_Z y0) → va_S A s.heap H locs → ∀ (ls : Array Slot), lv_has ls 4 [(0, .ref (g 0 0)), (1, .long n2_0), (3, .int n2_1)] → W p l e rmX8_mixLeavers s m ([.ref (g 0 0), .long x1] : List Value).toArray below meth c H locs 0 0 (MQ below (zQ (some (.long q_)) D A (wbALL K g z_ y0)) ([.ref (g 0 0), .long x1] : List Value).toArray s 0 0 A) (F0 m 2 ls []) := by
    intro n
    induction n with
    | zero =>
      intro n2_0 n2_1 q2_Z hf
      rw [fX8_mixLeavers_2] at hf
      cases hf
    | succ n ih =>
      intro n2_0 n2_1 q2_Z hf H locs hP hD hS ls hl
      rw [fX8_mixLeavers_2] at hf
      refine lv_iload_n X.1 X.2.1 dX8_mixLeavers_2 rfl (lv_at hl 2 rfl) ?_
      refine lv_aload_n X.1 X.2.1 dX8_mixLeavers_3 rfl (lv_at hl 0 rfl) ?_
      refine z_get X hK hP hiX8 0 rfl rfl 2 (by decide) (bw_in W1_19) rfl dX8_mixLeavers_4 ?_
      refine z_get X hK hP hiX2 17 rfl rfl 3 (by decide) (bw_in W17_7) rfl dX8_mixLeavers_7 ?_
      refine lv_icmp_ge (tgt := 52) X.1 X.2.1 dX8_mixLeavers_10 (by decide) (fun c1 => ?_) (fun c1 => ?_)
      · have hf := ite_t hf c1
        refine lv_lload_n X.1 X.2.1 dX8_mixLeavers_52 rfl (lv_at hl 1 rfl) ?_
        obtain ⟨rfl, rfl⟩ := z_inj2 hf
        exact z_lret X hr hlk hP hD hS dX8_mixLeavers_53
      · have hf := ite_f hf c1
        refine lv_lload_n X.1 X.2.1 dX8_mixLeavers_13 rfl (lv_at hl 1 rfl) ?_
        refine lv_aload_n X.1 X.2.1 dX8_mixLeavers_14 rfl (lv_at hl 0 rfl) ?_
        refine lv_iload_n X.1 X.2.1 dX8_mixLeavers_15 rfl (lv_at hl 2 rfl) ?_
        refine lv_iconst (v := 0) X.1 X.2.1 dX8_mixLeavers_16 (by decide) ?_
        obtain ⟨r2, z3, hc4, hf⟩ := bd2_e hf
        refine z_V (n := 2) (As := [.int n2_1, .int 0]) (rest := [.long n2_0]) (ci := 8) (q0 := 0) X hK hN (kX8_leaver l D K g q2_Z y0 _ n2_1 0 r2 z3 hc4) (bw_V W43_10 W16_22 W16_23 W1_2 W17_0) rfl ⟨rfl, rfl⟩ (by decide +kernel) rfl ⟨Nat.le_of_ble_eq_true rfl, Nat.le_of_ble_eq_true rfl⟩ hP hD rfl rfl (zj_same hD hS hA) hS hl.1 rfl (Nat.le_of_ble_eq_true rfl) dX8_mixLeavers_17 ⟨Nat.zero_le _, Nat.zero_le _⟩ rfl (fun H locs hP hD hS => ?_)
        refine lv_i2l X.1 X.2.1 dX8_mixLeavers_20 rfl ?_
        obtain ⟨r5, hc6, hf⟩ := bd1_e hf
        refine z_S (n := 2) (As := [.long n2_0, .long ((r2 : Int32).toInt64)]) (rest := []) X hK hN (kX8_mix l D K _ n2_0 ((r2 : Int32).toInt64) r5 hc6) (bw_S W42_18 W42_19 W1_2 W42_20) rfl ⟨rfl, rfl⟩ (by decide +kernel) rfl ⟨Nat.le_of_ble_eq_true rfl, Nat.le_of_ble_eq_true rfl⟩ (fun _ _ h => by simp at h) ⟨fun _ _ _ _ h => by simp at h, fun _ _ h => by simp at h⟩ (zj_none hP hD hS hA) hS hl.1 rfl (Nat.le_of_ble_eq_true rfl) dX8_mixLeavers_21 ⟨Nat.zero_le _, Nat.zero_le _⟩ rfl (fun H locs hP hD hS => ?_)
        refine lv_aload_n X.1 X.2.1 dX8_mixLeavers_24 rfl (lv_at hl 0 rfl) ?_
        refine lv_iload_n X.1 X.2.1 dX8_mixLeavers_25 rfl (lv_at hl 2 rfl) ?_
        refine lv_iconst (v := 1) X.1 X.2.1 dX8_mixLeavers_26 (by decide) ?_
        obtain ⟨r7, z8, hc9, hf⟩ := bd2_e hf
        refine z_V (n := 2) (As := [.int n2_1, .int 1]) (rest := [.long r5]) (ci := 8) (q0 := 0) X hK hN (kX8_leaver l D K g z3 y0 _ n2_1 1 r7 z8 hc9) (bw_V W43_10 W16_22 W16_23 W1_2 W17_0) rfl ⟨rfl, rfl⟩ (by decide +kernel) rfl ⟨Nat.le_of_ble_eq_true rfl, Nat.le_of_ble_eq_true rfl⟩ hP hD rfl rfl (zj_same hD hS hA) hS hl.1 rfl (Nat.le_of_ble_eq_true rfl) dX8_mixLeavers_27 ⟨Nat.zero_le _, Nat.zero_le _⟩ rfl (fun H locs hP hD hS => ?_)
        refine lv_i2l X.1 X.2.1 dX8_mixLeavers_30 rfl ?_
        obtain ⟨r10, hc11, hf⟩ := bd1_e hf
        refine z_S (n := 2) (As := [.long r5, .long ((r7 : Int32).toInt64)]) (rest := []) X hK hN (kX8_mix l D K _ r5 ((r7 : Int32).toInt64) r10 hc11) (bw_S W42_18 W42_19 W1_2 W42_20) rfl ⟨rfl, rfl⟩ (by decide +kernel) rfl ⟨Nat.le_of_ble_eq_true rfl, Nat.le_of_ble_eq_true rfl⟩ (fun _ _ h => by simp at h) ⟨fun _ _ _ _ h => by simp at h, fun _ _ h => by simp at h⟩ (zj_none hP hD hS hA) hS hl.1 rfl (Nat.le_of_ble_eq_true rfl) dX8_mixLeavers_31 ⟨Nat.zero_le _, Nat.zero_le _⟩ rfl (fun H locs hP hD hS => ?_)
        refine lv_lstore_n (lv' := [(1, .long r10), (0, .ref (g 0 0)), (3, .int n2_1)]) X.1 X.2.1 dX8_mixLeavers_34 rfl hl (by decide) rfl (fun ls hl => ?_)
        refine lv_lload_n X.1 X.2.1 dX8_mixLeavers_35 rfl (lv_at hl 0 rfl) ?_
        refine lv_aload_n X.1 X.2.1 dX8_mixLeavers_36 rfl (lv_at hl 1 rfl) ?_
        refine lv_iload_n X.1 X.2.1 dX8_mixLeavers_37 rfl (lv_at hl 2 rfl) ?_
        obtain ⟨r12, z13, hc14, hf⟩ := bd2_e hf
        refine z_V (n := 1) (As := [.int n2_1]) (rest := [.long r10]) (ci := 8) (q0 := 0) X hK hN (kX8_who l D K g z8 y0 _ n2_1 r12 z13 hc14) (bw_V W43_11 W34_0 W34_1 W1_2 W34_2) rfl ⟨rfl, rfl⟩ (by decide +kernel) rfl ⟨Nat.le_of_ble_eq_true rfl, Nat.le_of_ble_eq_true rfl⟩ hP hD rfl rfl (zj_same hD hS hA) hS hl.1 rfl (Nat.le_of_ble_eq_true rfl) dX8_mixLeavers_38 ⟨Nat.zero_le _, Nat.zero_le _⟩ rfl (fun H locs hP hD hS => ?_)
        refine lv_i2l X.1 X.2.1 dX8_mixLeavers_41 rfl ?_
        obtain ⟨r15, hc16, hf⟩ := bd1_e hf
        refine z_S (n := 2) (As := [.long r10, .long ((r12 : Int32).toInt64)]) (rest := []) X hK hN (kX8_mix l D K _ r10 ((r12 : Int32).toInt64) r15 hc16) (bw_S W42_18 W42_19 W1_2 W42_20) rfl ⟨rfl, rfl⟩ (by decide +kernel) rfl ⟨Nat.le_of_ble_eq_true rfl, Nat.le_of_ble_eq_true rfl⟩ (fun _ _ h => by simp at h) ⟨fun _ _ _ _ h => by simp at h, fun _ _ h => by simp at h⟩ (zj_none hP hD hS hA) hS hl.1 rfl (Nat.le_of_ble_eq_true rfl) dX8_mixLeavers_42 ⟨Nat.zero_le _, Nat.zero_le _⟩ rfl (fun H locs hP hD hS => ?_)
        refine lv_lstore_n (lv' := [(1, .long r15), (0, .ref (g 0 0)), (3, .int n2_1)]) X.1 X.2.1 dX8_mixLeavers_45 rfl hl (by decide) rfl (fun ls hl => ?_)
        obtain ⟨w17, ew17, hf⟩ := stp_e hf
        refine lv_iinc (v := w17) (lv' := [(3, .int w17), (1, .long r15), (0, .ref (g 0 0))]) X.1 X.2.1 dX8_mixLeavers_46 hl (k := 2) rfl (by rw [ew17]; rfl) (by decide) rfl (fun ls hl => ?_)
        refine lv_goto (tgt := 2) X.1 X.2.1 dX8_mixLeavers_49 (by decide) ?_
        exact ih _ _ _ hf _ _ hP hD hS _ (lv_sub hl [2, 1, 0] rfl)
  rw [fX8_mixLeavers] at hf
  refine lv_iconst (v := 0) X.1 X.2.1 dX8_mixLeavers_0 (by decide) ?_
  refine lv_istore_n (lv' := [(3, .int 0), (0, .ref (g 0 0)), (1, .long x1)]) X.1 X.2.1 dX8_mixLeavers_1 rfl hl (by decide) rfl (fun ls hl => ?_)
  exact L2_0  _ _ _ _ hf _ _ hP hD hS _ (lv_sub hl [1, 2, 0] rfl)
abbrev rmX8_stop : Room := { frames := 5, cells := 0, slots := 0, locals := 118 }
set_option maxHeartbeats 4000000 in
set_option maxRecDepth 100000 in
theorem kX8_stop (l : Launch) (D : va_G) (K : Nat → ClassId) (g : Nat → Nat → Nat) (z0 : Nat → St) (y0 : Nat → Lt) (sz : Nat) (x1 : Int32) (q_ : Int32) (z_ : Nat → St) (hf : fX8_stop z0 y0 x1 = some (q_, z_)) : Met l yX8_stop (bw (Cond.code yX8_stop cX8_stop 2 (some .int))) rmX8_stop (va_Pc [.ref (g 0 0), .int x1] (zB D K sz (wbALL K g z0 y0))) (zQ (some (.int q_)) D (va_A (wbALL K g z0 y0) sz) (wbALL K g z_ y0)) 0 0 (va_A (wbALL K g z0 y0) sz) := by
  refine z_of (cc := cX8_stop) (maxL := 2) (ret := (some .int)) (own := RX8) (lv := [(0, .ref (g 0 0)), (1, .int x1)]) (by decide) rfl rfl (Nat.le_of_ble_eq_true rfl) rfl ?_
  intro p e s m below meth c X hr hlk hK hN hsz hP hD hA hS hin ls hl
  generalize va_A (wbALL K g z0 y0) sz = A at hD hA hS hN ⊢
  have hiX2 : ∀ w ∈ u_ws RX2 TX2 14, w ∈ (bw (Cond.code yX8_stop cX8_stop 2 (some .int))) := fun w h => bw_in (inlX2 w h)
  have hiX8 : ∀ w ∈ u_ws RX8 TX8 11, w ∈ (bw (Cond.code yX8_stop cX8_stop 2 (some .int))) := fun w h => bw_in (inlX8 w h)
  rw [fX8_stop] at hf
  refine lv_iload_n X.1 X.2.1 dX8_stop_0 rfl (lv_at hl 1 rfl) ?_
  refine lv_if_lt (tgt := 10) X.1 X.2.1 dX8_stop_1 (by decide) (fun c1 => ?_) (fun c1 => ?_)
  · have hf := ite_t hf c1
    refine lv_bipush (v := -2) X.1 X.2.1 dX8_stop_10 (by decide) ?_
    obtain ⟨rfl, rfl⟩ := z_inj2 hf
    exact z_iret X hr hlk hP hD hS dX8_stop_12
  · have hf := ite_f hf c1
    refine lv_iload_n X.1 X.2.1 dX8_stop_4 rfl (lv_at hl 1 rfl) ?_
    refine lv_bipush (v := 20) X.1 X.2.1 dX8_stop_5 (by decide) ?_
    refine lv_icmp_lt (tgt := 13) X.1 X.2.1 dX8_stop_7 (by decide) (fun c2 => ?_) (fun c2 => ?_)
    · have hf := ite_t hf c2
      refine lv_aload_n X.1 X.2.1 dX8_stop_13 rfl (lv_at hl 0 rfl) ?_
      obtain ⟨z3, hc4, hf⟩ := bd1_e hf
      refine z_V (n := 0) (As := []) (rest := []) (ci := 8) (q0 := 0) X hK hN (kX8_freshen l D K g z0 y0 _ z3 hc4) (bw_V W11_14 W11_15 W11_16 W1_2 W11_17) rfl ⟨rfl, rfl⟩ (by decide +kernel) rfl ⟨Nat.le_of_ble_eq_true rfl, Nat.le_of_ble_eq_true rfl⟩ hP hD rfl rfl (zj_same hD hS hA) hS hl.1 rfl (Nat.le_of_ble_eq_true rfl) dX8_stop_14 ⟨Nat.zero_le _, Nat.zero_le _⟩ rfl (fun H locs hP hD hS => ?_)
      refine lv_iload_n X.1 X.2.1 dX8_stop_17 rfl (lv_at hl 1 rfl) ?_
      refine lv_aload_n X.1 X.2.1 dX8_stop_18 rfl (lv_at hl 0 rfl) ?_
      refine z_get X hK hP hiX8 0 rfl rfl 2 (by decide) (bw_in W1_19) rfl dX8_stop_19 ?_
      refine z_get X hK hP hiX2 17 rfl rfl 4 (by decide) (bw_in W17_20) rfl dX8_stop_22 ?_
      refine lv_icmp_ge (tgt := 40) X.1 X.2.1 dX8_stop_25 (by decide) (fun c5 => ?_) (fun c5 => ?_)
      · have hf := ite_t hf c5
        refine lv_iconst (v := -1) X.1 X.2.1 dX8_stop_40 (by decide) ?_
        obtain ⟨rfl, rfl⟩ := z_inj2 hf
        exact z_iret X hr hlk hP hD hS dX8_stop_41
      · have hf := ite_f hf c5
        refine lv_aload_n X.1 X.2.1 dX8_stop_28 rfl (lv_at hl 0 rfl) ?_
        refine z_get X hK hP hiX8 0 rfl rfl 2 (by decide) (bw_in W1_19) rfl dX8_stop_29 ?_
        refine z_get X hK hP hiX2 17 rfl rfl 11 (by decide) (bw_in W17_21) rfl dX8_stop_32 ?_
        refine lv_iload_n X.1 X.2.1 dX8_stop_35 rfl (lv_at hl 1 rfl) ?_
        obtain ⟨hi7, hf⟩ := chk_e hf
        obtain ⟨v6, ev6, hf⟩ := stp_e hf
        refine z_iald X hK hP 23 rfl hi7 ev6 dX8_stop_36 ?_
        refine lv_goto (tgt := 41) X.1 X.2.1 dX8_stop_37 (by decide) ?_
        obtain ⟨rfl, rfl⟩ := z_inj2 hf
        exact z_iret X hr hlk hP hD hS dX8_stop_41
    · have hf := ite_f hf c2
      refine lv_bipush (v := -2) X.1 X.2.1 dX8_stop_10 (by decide) ?_
      obtain ⟨rfl, rfl⟩ := z_inj2 hf
      exact z_iret X hr hlk hP hD hS dX8_stop_12
abbrev rmX8_mixStops : Room := { frames := 6, cells := 0, slots := 0, locals := 139 }
set_option maxHeartbeats 4000000 in
set_option maxRecDepth 100000 in
theorem kX8_mixStops (l : Launch) (D : va_G) (K : Nat → ClassId) (g : Nat → Nat → Nat) (z0 : Nat → St) (y0 : Nat → Lt) (sz : Nat) (x1 : Int64) (q_ : Int64) (z_ : Nat → St) (hf : fX8_mixStops z0 y0 x1 = some (q_, z_)) : Met l yX8_mixStops (bw (Cond.code yX8_mixStops cX8_mixStops 4 (some .long))) rmX8_mixStops (va_Pc [.ref (g 0 0), .long x1] (zB D K sz (wbALL K g z0 y0))) (zQ (some (.long q_)) D (va_A (wbALL K g z0 y0) sz) (wbALL K g z_ y0)) 0 0 (va_A (wbALL K g z0 y0) sz) := by
  refine z_of (cc := cX8_mixStops) (maxL := 4) (ret := (some .long)) (own := RX8) (lv := [(0, .ref (g 0 0)), (1, .long x1)]) (by decide) rfl rfl (Nat.le_of_ble_eq_true rfl) rfl ?_
  intro p e s m below meth c X hr hlk hK hN hsz hP hD hA hS hin ls hl
  generalize va_A (wbALL K g z0 y0) sz = A at hD hA hS hN ⊢
  have hiX2 : ∀ w ∈ u_ws RX2 TX2 14, w ∈ (bw (Cond.code yX8_mixStops cX8_mixStops 4 (some .long))) := fun w h => bw_in (inlX2 w h)
  have hiX8 : ∀ w ∈ u_ws RX8 TX8 11, w ∈ (bw (Cond.code yX8_mixStops cX8_mixStops 4 (some .long))) := fun w h => bw_in (inlX8 w h)
  have L2_0 : ∀ (n : Nat), ∀ (n2_0 : Int64) (n2_1 : Int32) (q2_Z : Nat → St), fX8_mixStops_2 y0 n n2_0 n2_1 q2_Z = some ((q_, z_)) → ∀ (H : Heap) (locs : List Loc), va_P D vwCl (wbALL K g q2_Z y0) H → va_D A (wbALL K g q2_Z y0) → va_S A s.heap H locs → ∀ (ls : Array Slot), lv_has ls 4 [(0, .ref (g 0 0)), (1, .long n2_0), (3, .int n2_1)] → W p l e rmX8_mixStops s m ([.ref (g 0 0), .long x1] : List Value).toArray below meth c H locs 0 0 (MQ below (zQ (some (.long q_)) D A (wbALL K g z_ y0)) ([.ref (g 0 0), .long x1] : List Value).toArray s 0 0 A) (F0 m 2 ls []) := by
    intro n
    induction n with
    | zero =>
      intro n2_0 n2_1 q2_Z hf
      rw [fX8_mixStops_2] at hf
      cases hf
    | succ n ih =>
      intro n2_0 n2_1 q2_Z hf H locs hP hD hS ls hl
      rw [fX8_mixStops_2] at hf
      refine lv_iload_n X.1 X.2.1 dX8_mixStops_2 rfl (lv_at hl 2 rfl) ?_
      refine lv_aload_n X.1 X.2.1 dX8_mixStops_3 rfl (lv_at hl 0 rfl) ?_
      refine z_get X hK hP hiX8 0 rfl rfl 2 (by decide) (bw_in W1_19) rfl dX8_mixStops_4 ?_
      refine z_get X hK hP hiX2 17 rfl rfl 4 (by decide) (bw_in W17_20) rfl dX8_mixStops_7 ?_
      refine lv_icmp_ge (tgt := 30) X.1 X.2.1 dX8_mixStops_10 (by decide) (fun c1 => ?_) (fun c1 => ?_)
      · have hf := ite_t hf c1
        refine lv_lload_n X.1 X.2.1 dX8_mixStops_30 rfl (lv_at hl 1 rfl) ?_
        obtain ⟨rfl, rfl⟩ := z_inj2 hf
        exact z_lret X hr hlk hP hD hS dX8_mixStops_31
      · have hf := ite_f hf c1
        refine lv_lload_n X.1 X.2.1 dX8_mixStops_13 rfl (lv_at hl 1 rfl) ?_
        refine lv_aload_n X.1 X.2.1 dX8_mixStops_14 rfl (lv_at hl 0 rfl) ?_
        refine lv_iload_n X.1 X.2.1 dX8_mixStops_15 rfl (lv_at hl 2 rfl) ?_
        obtain ⟨r2, z3, hc4, hf⟩ := bd2_e hf
        refine z_V (n := 1) (As := [.int n2_1]) (rest := [.long n2_0]) (ci := 8) (q0 := 0) X hK hN (kX8_stop l D K g q2_Z y0 _ n2_1 r2 z3 hc4) (bw_V W43_16 W17_17 W17_18 W1_2 W17_19) rfl ⟨rfl, rfl⟩ (by decide +kernel) rfl ⟨Nat.le_of_ble_eq_true rfl, Nat.le_of_ble_eq_true rfl⟩ hP hD rfl rfl (zj_same hD hS hA) hS hl.1 rfl (Nat.le_of_ble_eq_true rfl) dX8_mixStops_16 ⟨Nat.zero_le _, Nat.zero_le _⟩ rfl (fun H locs hP hD hS => ?_)
        refine lv_i2l X.1 X.2.1 dX8_mixStops_19 rfl ?_
        obtain ⟨r5, hc6, hf⟩ := bd1_e hf
        refine z_S (n := 2) (As := [.long n2_0, .long ((r2 : Int32).toInt64)]) (rest := []) X hK hN (kX8_mix l D K _ n2_0 ((r2 : Int32).toInt64) r5 hc6) (bw_S W42_18 W42_19 W1_2 W42_20) rfl ⟨rfl, rfl⟩ (by decide +kernel) rfl ⟨Nat.le_of_ble_eq_true rfl, Nat.le_of_ble_eq_true rfl⟩ (fun _ _ h => by simp at h) ⟨fun _ _ _ _ h => by simp at h, fun _ _ h => by simp at h⟩ (zj_none hP hD hS hA) hS hl.1 rfl (Nat.le_of_ble_eq_true rfl) dX8_mixStops_20 ⟨Nat.zero_le _, Nat.zero_le _⟩ rfl (fun H locs hP hD hS => ?_)
        refine lv_lstore_n (lv' := [(1, .long r5), (0, .ref (g 0 0)), (3, .int n2_1)]) X.1 X.2.1 dX8_mixStops_23 rfl hl (by decide) rfl (fun ls hl => ?_)
        obtain ⟨w7, ew7, hf⟩ := stp_e hf
        refine lv_iinc (v := w7) (lv' := [(3, .int w7), (1, .long r5), (0, .ref (g 0 0))]) X.1 X.2.1 dX8_mixStops_24 hl (k := 2) rfl (by rw [ew7]; rfl) (by decide) rfl (fun ls hl => ?_)
        refine lv_goto (tgt := 2) X.1 X.2.1 dX8_mixStops_27 (by decide) ?_
        exact ih _ _ _ hf _ _ hP hD hS _ (lv_sub hl [2, 1, 0] rfl)
  rw [fX8_mixStops] at hf
  refine lv_iconst (v := 0) X.1 X.2.1 dX8_mixStops_0 (by decide) ?_
  refine lv_istore_n (lv' := [(3, .int 0), (0, .ref (g 0 0)), (1, .long x1)]) X.1 X.2.1 dX8_mixStops_1 rfl hl (by decide) rfl (fun ls hl => ?_)
  exact L2_0  _ _ _ _ hf _ _ hP hD hS _ (lv_sub hl [1, 2, 0] rfl)
abbrev rmX8_lift : Room := { frames := 5, cells := 0, slots := 0, locals := 118 }
set_option maxHeartbeats 4000000 in
set_option maxRecDepth 100000 in
theorem kX8_lift (l : Launch) (D : va_G) (K : Nat → ClassId) (g : Nat → Nat → Nat) (z0 : Nat → St) (y0 : Nat → Lt) (sz : Nat) (x1 : Int32) (x2 : Int32) (q_ : Int32) (z_ : Nat → St) (hf : fX8_lift z0 y0 x1 x2 = some (q_, z_)) : Met l yX8_lift (bw (Cond.code yX8_lift cX8_lift 3 (some .int))) rmX8_lift (va_Pc [.ref (g 0 0), .int x1, .int x2] (zB D K sz (wbALL K g z0 y0))) (zQ (some (.int q_)) D (va_A (wbALL K g z0 y0) sz) (wbALL K g z_ y0)) 0 0 (va_A (wbALL K g z0 y0) sz) := by
  refine z_of (cc := cX8_lift) (maxL := 3) (ret := (some .int)) (own := RX8) (lv := [(0, .ref (g 0 0)), (1, .int x1), (2, .int x2)]) (by decide) rfl rfl (Nat.le_of_ble_eq_true rfl) rfl ?_
  intro p e s m below meth c X hr hlk hK hN hsz hP hD hA hS hin ls hl
  generalize va_A (wbALL K g z0 y0) sz = A at hD hA hS hN ⊢
  have hiX8 : ∀ w ∈ u_ws RX8 TX8 11, w ∈ (bw (Cond.code yX8_lift cX8_lift 3 (some .int))) := fun w h => bw_in (inlX8 w h)
  rw [fX8_lift] at hf
  refine lv_iload_n X.1 X.2.1 dX8_lift_0 rfl (lv_at hl 1 rfl) ?_
  obtain ⟨r1, hc2, hf⟩ := bd1_e hf
  refine z_S (n := 1) (As := [.int x1]) (rest := []) X hK hN (kX8_noSuchStep l D K _ x1 r1 hc2) (bw_S W18_20 W18_21 W1_2 W18_22) rfl ⟨rfl, rfl⟩ (by decide +kernel) rfl ⟨Nat.le_of_ble_eq_true rfl, Nat.le_of_ble_eq_true rfl⟩ (fun _ _ h => by simp at h) ⟨fun _ _ _ _ h => by simp at h, fun _ _ h => by simp at h⟩ (zj_none hP hD hS hA) hS hl.1 rfl (Nat.le_of_ble_eq_true rfl) dX8_lift_1 ⟨Nat.zero_le _, Nat.zero_le _⟩ rfl (fun H locs hP hD hS => ?_)
  refine lv_if_ne (tgt := 16) X.1 X.2.1 dX8_lift_4 (by decide) (fun c3 => ?_) (fun c3 => ?_)
  · have hf := ite_f hf c3
    refine lv_bipush (v := -2) X.1 X.2.1 dX8_lift_16 (by decide) ?_
    obtain ⟨rfl, rfl⟩ := z_inj2 hf
    exact z_iret X hr hlk hP hD hS dX8_lift_18
  · have hf := ite_t hf c3
    refine lv_iload_n X.1 X.2.1 dX8_lift_7 rfl (lv_at hl 2 rfl) ?_
    refine lv_if_lt (tgt := 16) X.1 X.2.1 dX8_lift_8 (by decide) (fun c4 => ?_) (fun c4 => ?_)
    · have hf := ite_t hf c4
      refine lv_bipush (v := -2) X.1 X.2.1 dX8_lift_16 (by decide) ?_
      obtain ⟨rfl, rfl⟩ := z_inj2 hf
      exact z_iret X hr hlk hP hD hS dX8_lift_18
    · have hf := ite_f hf c4
      refine lv_iload_n X.1 X.2.1 dX8_lift_11 rfl (lv_at hl 2 rfl) ?_
      refine lv_iconst (v := 4) X.1 X.2.1 dX8_lift_12 (by decide) ?_
      refine lv_icmp_lt (tgt := 19) X.1 X.2.1 dX8_lift_13 (by decide) (fun c5 => ?_) (fun c5 => ?_)
      · have hf := ite_t hf c5
        refine lv_aload_n X.1 X.2.1 dX8_lift_19 rfl (lv_at hl 0 rfl) ?_
        obtain ⟨z6, hc7, hf⟩ := bd1_e hf
        refine z_V (n := 0) (As := []) (rest := []) (ci := 8) (q0 := 0) X hK hN (kX8_freshen l D K g z0 y0 _ z6 hc7) (bw_V W11_14 W11_15 W11_16 W1_2 W11_17) rfl ⟨rfl, rfl⟩ (by decide +kernel) rfl ⟨Nat.le_of_ble_eq_true rfl, Nat.le_of_ble_eq_true rfl⟩ hP hD rfl rfl (zj_same hD hS hA) hS hl.1 rfl (Nat.le_of_ble_eq_true rfl) dX8_lift_20 ⟨Nat.zero_le _, Nat.zero_le _⟩ rfl (fun H locs hP hD hS => ?_)
        refine lv_aload_n X.1 X.2.1 dX8_lift_23 rfl (lv_at hl 0 rfl) ?_
        refine z_get X hK hP hiX8 0 rfl rfl 3 (by decide) (bw_in W1_23) rfl dX8_lift_24 ?_
        refine lv_iload_n X.1 X.2.1 dX8_lift_27 rfl (lv_at hl 1 rfl) ?_
        refine lv_iload_n X.1 X.2.1 dX8_lift_28 rfl (lv_at hl 2 rfl) ?_
        obtain ⟨r8, hc9, hf⟩ := bd1_e hf
        have hp10 : List.Perm (wbALL K g z6 y0) ((wbX2 K (g 8) (z6 8) ++ (wbX4 K (g 8 0) (g 9) (z6 9))) ++ ([0, 1, 2, 3, 4, 5, 6, 7, 10, 11, 12, 13, 14].map (bfALL K g z6 y0)).flatten) := by rw [asc2]; exact wbALL_perm [8, 9, 0, 1, 2, 3, 4, 5, 6, 7, 10, 11, 12, 13, 14] (by decide)
        refine z_V (n := 2) (As := [.int x1, .int x2]) (rest := []) (ci := 4) (q0 := 9) X hK hN (kX4_tell l D K (g 8) (g 9) (z6 8) (z6 9) _ x1 x2 r8 hc9) (bw_V W18_23 W19_0 W19_1 W1_22 W19_2) rfl ⟨rfl, rfl⟩ (by decide +kernel) rfl ⟨Nat.le_of_ble_eq_true rfl, Nat.le_of_ble_eq_true rfl⟩ (hP.perm hp10).lef (hD.perm hp10).lef rfl rfl (zj_perm (ws' := wbALL K g z6 y0) hP hD hS hA hp10 (by rw [asc2]; refine List.Perm.symm ?_; exact wbALL_perm [8, 9, 0, 1, 2, 3, 4, 5, 6, 7, 10, 11, 12, 13, 14] (by decide))) hS hl.1 rfl (Nat.le_of_ble_eq_true rfl) dX8_lift_29 ⟨Nat.zero_le _, Nat.zero_le _⟩ rfl (fun H locs hP hD hS => ?_)
        obtain ⟨rfl, rfl⟩ := z_inj2 hf
        exact z_iret X hr hlk hP hD hS dX8_lift_32
      · have hf := ite_f hf c5
        refine lv_bipush (v := -2) X.1 X.2.1 dX8_lift_16 (by decide) ?_
        obtain ⟨rfl, rfl⟩ := z_inj2 hf
        exact z_iret X hr hlk hP hD hS dX8_lift_18
abbrev rmX8_mixSteps : Room := { frames := 6, cells := 0, slots := 0, locals := 140 }
set_option maxHeartbeats 4000000 in
set_option maxRecDepth 100000 in
theorem kX8_mixSteps (l : Launch) (D : va_G) (K : Nat → ClassId) (g : Nat → Nat → Nat) (z0 : Nat → St) (y0 : Nat → Lt) (sz : Nat) (x1 : Int64) (q_ : Int64) (z_ : Nat → St) (hf : fX8_mixSteps z0 y0 x1 = some (q_, z_)) : Met l yX8_mixSteps (bw (Cond.code yX8_mixSteps cX8_mixSteps 8 (some .long))) rmX8_mixSteps (va_Pc [.ref (g 0 0), .long x1] (zB D K sz (wbALL K g z0 y0))) (zQ (some (.long q_)) D (va_A (wbALL K g z0 y0) sz) (wbALL K g z_ y0)) 0 0 (va_A (wbALL K g z0 y0) sz) := by
  refine z_of (cc := cX8_mixSteps) (maxL := 8) (ret := (some .long)) (own := RX8) (lv := [(0, .ref (g 0 0)), (1, .long x1)]) (by decide) rfl rfl (Nat.le_of_ble_eq_true rfl) rfl ?_
  intro p e s m below meth c X hr hlk hK hN hsz hP hD hA hS hin ls hl
  generalize va_A (wbALL K g z0 y0) sz = A at hD hA hS hN ⊢
  have L27_1 : ∀ (rec11 : Int64 → Int32 → Int32 → (Nat → St) → Option (Int64 × (Nat → St))) (hrec11 : ∀ (n11_0 : Int64) (n11_1 : Int32) (n11_2 : Int32) (q11_Z : Nat → St), rec11 n11_0 n11_1 n11_2 q11_Z = some ((q_, z_)) → ∀ (H : Heap) (locs : List Loc), va_P D vwCl (wbALL K g q11_Z y0) H → va_D A (wbALL K g q11_Z y0) → va_S A s.heap H locs → ∀ (ls : Array Slot), lv_has ls 8 [(0, .ref (g 0 0)), (1, .long n11_0), (3, .ref (K 5)), (4, .int n11_1), (5, .int n11_2)] → W p l e rmX8_mixSteps s m ([.ref (g 0 0), .long x1] : List Value).toArray below meth c H locs 0 0 (MQ below (zQ (some (.long q_)) D A (wbALL K g z_ y0)) ([.ref (g 0 0), .long x1] : List Value).toArray s 0 0 A) (F0 m 11 ls [])), ∀ (n : Nat), ∀ (n27_0 : Int64) (n27_1 : Int32) (n27_2 : Int32) (n27_3 : Int32) (n27_4 : Int32) (q27_Z : Nat → St), fX8_mixSteps_27 y0 rec11 n n27_0 n27_1 n27_2 n27_3 n27_4 q27_Z = some ((q_, z_)) → ∀ (H : Heap) (locs : List Loc), va_P D vwCl (wbALL K g q27_Z y0) H → va_D A (wbALL K g q27_Z y0) → va_S A s.heap H locs → ∀ (ls : Array Slot), lv_has ls 8 [(0, .ref (g 0 0)), (1, .long n27_0), (3, .ref (K 5)), (4, .int n27_1), (5, .int n27_2), (6, .int n27_3), (7, .int n27_4)] → W p l e rmX8_mixSteps s m ([.ref (g 0 0), .long x1] : List Value).toArray below meth c H locs 0 0 (MQ below (zQ (some (.long q_)) D A (wbALL K g z_ y0)) ([.ref (g 0 0), .long x1] : List Value).toArray s 0 0 A) (F0 m 27 ls []) := by
    intro rec11 hrec11 n
    induction n with
    | zero =>
      intro n27_0 n27_1 n27_2 n27_3 n27_4 q27_Z hf
      rw [fX8_mixSteps_27] at hf
      cases hf
    | succ n ih =>
      intro n27_0 n27_1 n27_2 n27_3 n27_4 q27_Z hf H locs hP hD hS ls hl
      rw [fX8_mixSteps_27] at hf
      refine lv_iload X.1 X.2.1 dX8_mixSteps_27 (lv_at hl 6 rfl) ?_
      refine lv_iconst (v := 4) X.1 X.2.1 dX8_mixSteps_29 (by decide) ?_
      refine lv_icmp_ge (tgt := 53) X.1 X.2.1 dX8_mixSteps_30 (by decide) (fun c4 => ?_) (fun c4 => ?_)
      · have hf := ite_t hf c4
        refine lv_lload_n X.1 X.2.1 dX8_mixSteps_53 rfl (lv_at hl 1 rfl) ?_
        refine lv_aload_n X.1 X.2.1 dX8_mixSteps_54 rfl (lv_at hl 0 rfl) ?_
        refine lv_iload X.1 X.2.1 dX8_mixSteps_55 (lv_at hl 5 rfl) ?_
        obtain ⟨r5, z6, hc7, hf⟩ := bd2_e hf
        refine z_V (n := 1) (As := [.int n27_3]) (rest := [.long n27_0]) (ci := 8) (q0 := 0) X hK hN (kX8_arrived l D K g q27_Z y0 _ n27_3 r5 z6 hc7) (bw_V W43_23 W24_20 W24_21 W1_2 W24_22) rfl ⟨rfl, rfl⟩ (by decide +kernel) rfl ⟨Nat.le_of_ble_eq_true rfl, Nat.le_of_ble_eq_true rfl⟩ hP hD rfl rfl (zj_same hD hS hA) hS hl.1 rfl (Nat.le_of_ble_eq_true rfl) dX8_mixSteps_57 ⟨Nat.zero_le _, Nat.zero_le _⟩ rfl (fun H locs hP hD hS => ?_)
        refine lv_i2l X.1 X.2.1 dX8_mixSteps_60 rfl ?_
        obtain ⟨r8, hc9, hf⟩ := bd1_e hf
        refine z_S (n := 2) (As := [.long n27_0, .long ((r5 : Int32).toInt64)]) (rest := []) X hK hN (kX8_mix l D K _ n27_0 ((r5 : Int32).toInt64) r8 hc9) (bw_S W42_18 W42_19 W1_2 W42_20) rfl ⟨rfl, rfl⟩ (by decide +kernel) rfl ⟨Nat.le_of_ble_eq_true rfl, Nat.le_of_ble_eq_true rfl⟩ (fun _ _ h => by simp at h) ⟨fun _ _ _ _ h => by simp at h, fun _ _ h => by simp at h⟩ (zj_none hP hD hS hA) hS hl.1 rfl (Nat.le_of_ble_eq_true rfl) dX8_mixSteps_61 ⟨Nat.zero_le _, Nat.zero_le _⟩ rfl (fun H locs hP hD hS => ?_)
        refine lv_lstore_n (lv' := [(1, .long r8), (0, .ref (g 0 0)), (3, .ref (K 5)), (4, .int n27_1), (5, .int n27_2), (6, .int n27_3), (7, .int n27_4)]) X.1 X.2.1 dX8_mixSteps_64 rfl hl (by decide) rfl (fun ls hl => ?_)
        obtain ⟨w10, ew10, hf⟩ := stp_e hf
        refine lv_iinc (v := w10) (lv' := [(5, .int w10), (1, .long r8), (0, .ref (g 0 0)), (3, .ref (K 5)), (4, .int n27_1), (6, .int n27_3), (7, .int n27_4)]) X.1 X.2.1 dX8_mixSteps_65 hl (k := 4) rfl (by rw [ew10]; rfl) (by decide) rfl (fun ls hl => ?_)
        refine lv_goto (tgt := 11) X.1 X.2.1 dX8_mixSteps_68 (by decide) ?_
        exact hrec11 _ _ _ _ hf _ _ hP hD hS _ (lv_sub hl [2, 1, 3, 4, 0] rfl)
      · have hf := ite_f hf c4
        refine lv_lload_n X.1 X.2.1 dX8_mixSteps_33 rfl (lv_at hl 1 rfl) ?_
        refine lv_aload_n X.1 X.2.1 dX8_mixSteps_34 rfl (lv_at hl 0 rfl) ?_
        refine lv_iload X.1 X.2.1 dX8_mixSteps_35 (lv_at hl 5 rfl) ?_
        refine lv_iload X.1 X.2.1 dX8_mixSteps_37 (lv_at hl 6 rfl) ?_
        obtain ⟨r11, z12, hc13, hf⟩ := bd2_e hf
        refine z_V (n := 2) (As := [.int n27_3, .int n27_4]) (rest := [.long n27_0]) (ci := 8) (q0 := 0) X hK hN (kX8_lift l D K g q27_Z y0 _ n27_3 n27_4 r11 z12 hc13) (bw_V W43_22 W18_17 W18_18 W1_2 W18_19) rfl ⟨rfl, rfl⟩ (by decide +kernel) rfl ⟨Nat.le_of_ble_eq_true rfl, Nat.le_of_ble_eq_true rfl⟩ hP hD rfl rfl (zj_same hD hS hA) hS hl.1 rfl (Nat.le_of_ble_eq_true rfl) dX8_mixSteps_39 ⟨Nat.zero_le _, Nat.zero_le _⟩ rfl (fun H locs hP hD hS => ?_)
        refine lv_i2l X.1 X.2.1 dX8_mixSteps_42 rfl ?_
        obtain ⟨r14, hc15, hf⟩ := bd1_e hf
        refine z_S (n := 2) (As := [.long n27_0, .long ((r11 : Int32).toInt64)]) (rest := []) X hK hN (kX8_mix l D K _ n27_0 ((r11 : Int32).toInt64) r14 hc15) (bw_S W42_18 W42_19 W1_2 W42_20) rfl ⟨rfl, rfl⟩ (by decide +kernel) rfl ⟨Nat.le_of_ble_eq_true rfl, Nat.le_of_ble_eq_true rfl⟩ (fun _ _ h => by simp at h) ⟨fun _ _ _ _ h => by simp at h, fun _ _ h => by simp at h⟩ (zj_none hP hD hS hA) hS hl.1 rfl (Nat.le_of_ble_eq_true rfl) dX8_mixSteps_43 ⟨Nat.zero_le _, Nat.zero_le _⟩ rfl (fun H locs hP hD hS => ?_)
        refine lv_lstore_n (lv' := [(1, .long r14), (0, .ref (g 0 0)), (3, .ref (K 5)), (4, .int n27_1), (5, .int n27_2), (6, .int n27_3), (7, .int n27_4)]) X.1 X.2.1 dX8_mixSteps_46 rfl hl (by decide) rfl (fun ls hl => ?_)
        obtain ⟨w16, ew16, hf⟩ := stp_e hf
        refine lv_iinc (v := w16) (lv' := [(7, .int w16), (1, .long r14), (0, .ref (g 0 0)), (3, .ref (K 5)), (4, .int n27_1), (5, .int n27_2), (6, .int n27_3)]) X.1 X.2.1 dX8_mixSteps_47 hl (k := 6) rfl (by rw [ew16]; rfl) (by decide) rfl (fun ls hl => ?_)
        refine lv_goto (tgt := 27) X.1 X.2.1 dX8_mixSteps_50 (by decide) ?_
        exact ih _ _ _ _ _ _ hf _ _ hP hD hS _ (lv_sub hl [2, 1, 3, 4, 5, 6, 0] rfl)
  have L11_0 : ∀ (n : Nat), ∀ (n11_0 : Int64) (n11_1 : Int32) (n11_2 : Int32) (q11_Z : Nat → St), fX8_mixSteps_11 y0 n n11_0 n11_1 n11_2 q11_Z = some ((q_, z_)) → ∀ (H : Heap) (locs : List Loc), va_P D vwCl (wbALL K g q11_Z y0) H → va_D A (wbALL K g q11_Z y0) → va_S A s.heap H locs → ∀ (ls : Array Slot), lv_has ls 8 [(0, .ref (g 0 0)), (1, .long n11_0), (3, .ref (K 5)), (4, .int n11_1), (5, .int n11_2)] → W p l e rmX8_mixSteps s m ([.ref (g 0 0), .long x1] : List Value).toArray below meth c H locs 0 0 (MQ below (zQ (some (.long q_)) D A (wbALL K g z_ y0)) ([.ref (g 0 0), .long x1] : List Value).toArray s 0 0 A) (F0 m 11 ls []) := by
    intro n
    induction n with
    | zero =>
      intro n11_0 n11_1 n11_2 q11_Z hf
      rw [fX8_mixSteps_11] at hf
      cases hf
    | succ n ih =>
      intro n11_0 n11_1 n11_2 q11_Z hf H locs hP hD hS ls hl
      rw [fX8_mixSteps_11] at hf
      refine lv_iload X.1 X.2.1 dX8_mixSteps_11 (lv_at hl 4 rfl) ?_
      refine lv_iload X.1 X.2.1 dX8_mixSteps_13 (lv_at hl 3 rfl) ?_
      refine lv_icmp_ge (tgt := 71) X.1 X.2.1 dX8_mixSteps_15 (by decide) (fun c1 => ?_) (fun c1 => ?_)
      · have hf := ite_t hf c1
        refine lv_lload_n X.1 X.2.1 dX8_mixSteps_71 rfl (lv_at hl 1 rfl) ?_
        obtain ⟨rfl, rfl⟩ := z_inj2 hf
        exact z_lret X hr hlk hP hD hS dX8_mixSteps_72
      · have hf := ite_f hf c1
        refine lv_aload_n X.1 X.2.1 dX8_mixSteps_18 rfl (lv_at hl 2 rfl) ?_
        refine lv_iload X.1 X.2.1 dX8_mixSteps_19 (lv_at hl 4 rfl) ?_
        obtain ⟨hi2, hf⟩ := chk_e hf
        obtain ⟨v3, ev3, hf⟩ := stp_e hf
        refine va_ti (v := .int v3) X.1 X.2.1 hN.2.2 hS hi2 (by rw [ev3]) dX8_mixSteps_21 ?_
        refine lv_istore (lv' := [(6, .int v3), (0, .ref (g 0 0)), (1, .long n11_0), (3, .ref (K 5)), (4, .int n11_1), (5, .int n11_2)]) X.1 X.2.1 dX8_mixSteps_22 hl (by decide) rfl (fun ls hl => ?_)
        refine lv_iconst (v := 0) X.1 X.2.1 dX8_mixSteps_24 (by decide) ?_
        refine lv_istore (lv' := [(7, .int 0), (6, .int v3), (0, .ref (g 0 0)), (1, .long n11_0), (3, .ref (K 5)), (4, .int n11_1), (5, .int n11_2)]) X.1 X.2.1 dX8_mixSteps_25 hl (by decide) rfl (fun ls hl => ?_)
        exact L27_1 _ ih _ _ _ _ _ _ _ hf _ _ hP hD hS _ (lv_sub hl [2, 3, 4, 5, 6, 1, 0] rfl)
  rw [fX8_mixSteps] at hf
  refine va_gets X.1 X.2.1 hN.2.1 hS X.2.2.2.1 (X.2.2.2.2 _ (bw_in W43_21)) (fun _ h => h) dX8_mixSteps_0 ?_
  refine lv_astore_n (lv' := [(3, .ref (K 5)), (0, .ref (g 0 0)), (1, .long x1)]) X.1 X.2.1 dX8_mixSteps_3 rfl hl (by decide) rfl (fun ls hl => ?_)
  refine lv_aload_n X.1 X.2.1 dX8_mixSteps_4 rfl (lv_at hl 0 rfl) ?_
  refine va_tlen (v := 4) X.1 X.2.1 hN.2.2 hS rfl dX8_mixSteps_5 ?_
  refine lv_istore (lv' := [(4, .int 4), (3, .ref (K 5)), (0, .ref (g 0 0)), (1, .long x1)]) X.1 X.2.1 dX8_mixSteps_6 hl (by decide) rfl (fun ls hl => ?_)
  refine lv_iconst (v := 0) X.1 X.2.1 dX8_mixSteps_8 (by decide) ?_
  refine lv_istore (lv' := [(5, .int 0), (4, .int 4), (3, .ref (K 5)), (0, .ref (g 0 0)), (1, .long x1)]) X.1 X.2.1 dX8_mixSteps_9 hl (by decide) rfl (fun ls hl => ?_)
  exact L11_0  _ _ _ _ _ hf _ _ hP hD hS _ (lv_sub hl [3, 4, 2, 1, 0] rfl)
abbrev rmX8_ends : Room := { frames := 5, cells := 0, slots := 0, locals := 118 }
set_option maxHeartbeats 4000000 in
set_option maxRecDepth 100000 in
theorem kX8_ends (l : Launch) (D : va_G) (K : Nat → ClassId) (g : Nat → Nat → Nat) (z0 : Nat → St) (y0 : Nat → Lt) (sz : Nat)  (q_ : Int32) (z_ : Nat → St) (hf : fX8_ends z0 y0 = some (q_, z_)) : Met l yX8_ends (bw (Cond.code yX8_ends cX8_ends 1 (some .int))) rmX8_ends (va_Pc [.ref (g 0 0)] (zB D K sz (wbALL K g z0 y0))) (zQ (some (.int q_)) D (va_A (wbALL K g z0 y0) sz) (wbALL K g z_ y0)) 0 0 (va_A (wbALL K g z0 y0) sz) := by
  refine z_of (cc := cX8_ends) (maxL := 1) (ret := (some .int)) (own := RX8) (lv := [(0, .ref (g 0 0))]) (by decide) rfl rfl (Nat.le_of_ble_eq_true rfl) rfl ?_
  intro p e s m below meth c X hr hlk hK hN hsz hP hD hA hS hin ls hl
  generalize va_A (wbALL K g z0 y0) sz = A at hD hA hS hN ⊢
  have hiX8 : ∀ w ∈ u_ws RX8 TX8 11, w ∈ (bw (Cond.code yX8_ends cX8_ends 1 (some .int))) := fun w h => bw_in (inlX8 w h)
  rw [fX8_ends] at hf
  refine lv_aload_n X.1 X.2.1 dX8_ends_0 rfl (lv_at hl 0 rfl) ?_
  obtain ⟨z1, hc2, hf⟩ := bd1_e hf
  refine z_V (n := 0) (As := []) (rest := []) (ci := 8) (q0 := 0) X hK hN (kX8_freshen l D K g z0 y0 _ z1 hc2) (bw_V W11_14 W11_15 W11_16 W1_2 W11_17) rfl ⟨rfl, rfl⟩ (by decide +kernel) rfl ⟨Nat.le_of_ble_eq_true rfl, Nat.le_of_ble_eq_true rfl⟩ hP hD rfl rfl (zj_same hD hS hA) hS hl.1 rfl (Nat.le_of_ble_eq_true rfl) dX8_ends_1 ⟨Nat.zero_le _, Nat.zero_le _⟩ rfl (fun H locs hP hD hS => ?_)
  refine lv_aload_n X.1 X.2.1 dX8_ends_4 rfl (lv_at hl 0 rfl) ?_
  refine z_get X hK hP hiX8 0 rfl rfl 3 (by decide) (bw_in W1_23) rfl dX8_ends_5 ?_
  obtain ⟨r3, hc4, hf⟩ := bd1_e hf
  have hp5 : List.Perm (wbALL K g z1 y0) ((wbX2 K (g 8) (z1 8) ++ (wbX4 K (g 8 0) (g 9) (z1 9))) ++ ([0, 1, 2, 3, 4, 5, 6, 7, 10, 11, 12, 13, 14].map (bfALL K g z1 y0)).flatten) := by rw [asc2]; exact wbALL_perm [8, 9, 0, 1, 2, 3, 4, 5, 6, 7, 10, 11, 12, 13, 14] (by decide)
  refine z_V (n := 0) (As := []) (rest := []) (ci := 4) (q0 := 9) X hK hN (kX4_endsBehind l D K (g 8) (g 9) (z1 8) (z1 9) _ r3 hc4) (bw_V W22_7 W22_8 W22_9 W1_22 W22_10) rfl ⟨rfl, rfl⟩ (by decide +kernel) rfl ⟨Nat.le_of_ble_eq_true rfl, Nat.le_of_ble_eq_true rfl⟩ (hP.perm hp5).lef (hD.perm hp5).lef rfl rfl (zj_perm (ws' := wbALL K g z1 y0) hP hD hS hA hp5 (by rw [asc2]; refine List.Perm.symm ?_; exact wbALL_perm [8, 9, 0, 1, 2, 3, 4, 5, 6, 7, 10, 11, 12, 13, 14] (by decide))) hS hl.1 rfl (Nat.le_of_ble_eq_true rfl) dX8_ends_8 ⟨Nat.zero_le _, Nat.zero_le _⟩ rfl (fun H locs hP hD hS => ?_)
  obtain ⟨rfl, rfl⟩ := z_inj2 hf
  exact z_iret X hr hlk hP hD hS dX8_ends_11
abbrev rmX8_full : Room := { frames := 5, cells := 0, slots := 0, locals := 118 }
set_option maxHeartbeats 4000000 in
set_option maxRecDepth 100000 in
theorem kX8_full (l : Launch) (D : va_G) (K : Nat → ClassId) (g : Nat → Nat → Nat) (z0 : Nat → St) (y0 : Nat → Lt) (sz : Nat) (x1 : Int32) (q_ : Int32) (z_ : Nat → St) (hf : fX8_full z0 y0 x1 = some (q_, z_)) : Met l yX8_full (bw (Cond.code yX8_full cX8_full 2 (some .int))) rmX8_full (va_Pc [.ref (g 0 0), .int x1] (zB D K sz (wbALL K g z0 y0))) (zQ (some (.int q_)) D (va_A (wbALL K g z0 y0) sz) (wbALL K g z_ y0)) 0 0 (va_A (wbALL K g z0 y0) sz) := by
  refine z_of (cc := cX8_full) (maxL := 2) (ret := (some .int)) (own := RX8) (lv := [(0, .ref (g 0 0)), (1, .int x1)]) (by decide) rfl rfl (Nat.le_of_ble_eq_true rfl) rfl ?_
  intro p e s m below meth c X hr hlk hK hN hsz hP hD hA hS hin ls hl
  generalize va_A (wbALL K g z0 y0) sz = A at hD hA hS hN ⊢
  have hiX8 : ∀ w ∈ u_ws RX8 TX8 11, w ∈ (bw (Cond.code yX8_full cX8_full 2 (some .int))) := fun w h => bw_in (inlX8 w h)
  rw [fX8_full] at hf
  refine lv_iload_n X.1 X.2.1 dX8_full_0 rfl (lv_at hl 1 rfl) ?_
  refine lv_if_lt (tgt := 9) X.1 X.2.1 dX8_full_1 (by decide) (fun c1 => ?_) (fun c1 => ?_)
  · have hf := ite_t hf c1
    refine lv_bipush (v := -2) X.1 X.2.1 dX8_full_9 (by decide) ?_
    obtain ⟨rfl, rfl⟩ := z_inj2 hf
    exact z_iret X hr hlk hP hD hS dX8_full_11
  · have hf := ite_f hf c1
    refine lv_iload_n X.1 X.2.1 dX8_full_4 rfl (lv_at hl 1 rfl) ?_
    refine lv_iconst (v := 1) X.1 X.2.1 dX8_full_5 (by decide) ?_
    refine lv_icmp_le (tgt := 12) X.1 X.2.1 dX8_full_6 (by decide) (fun c2 => ?_) (fun c2 => ?_)
    · have hf := ite_t hf c2
      refine lv_aload_n X.1 X.2.1 dX8_full_12 rfl (lv_at hl 0 rfl) ?_
      obtain ⟨z3, hc4, hf⟩ := bd1_e hf
      refine z_V (n := 0) (As := []) (rest := []) (ci := 8) (q0 := 0) X hK hN (kX8_freshen l D K g z0 y0 _ z3 hc4) (bw_V W11_14 W11_15 W11_16 W1_2 W11_17) rfl ⟨rfl, rfl⟩ (by decide +kernel) rfl ⟨Nat.le_of_ble_eq_true rfl, Nat.le_of_ble_eq_true rfl⟩ hP hD rfl rfl (zj_same hD hS hA) hS hl.1 rfl (Nat.le_of_ble_eq_true rfl) dX8_full_13 ⟨Nat.zero_le _, Nat.zero_le _⟩ rfl (fun H locs hP hD hS => ?_)
      refine lv_iload_n X.1 X.2.1 dX8_full_16 rfl (lv_at hl 1 rfl) ?_
      refine lv_if_ne (tgt := 30) X.1 X.2.1 dX8_full_17 (by decide) (fun c5 => ?_) (fun c5 => ?_)
      · have hf := ite_f hf c5
        refine lv_aload_n X.1 X.2.1 dX8_full_30 rfl (lv_at hl 0 rfl) ?_
        refine z_get X hK hP hiX8 0 rfl rfl 3 (by decide) (bw_in W1_23) rfl dX8_full_31 ?_
        obtain ⟨r6, hc7, hf⟩ := bd1_e hf
        have hp8 : List.Perm (wbALL K g z3 y0) ((wbX2 K (g 8) (z3 8) ++ (wbX4 K (g 8 0) (g 9) (z3 9))) ++ ([0, 1, 2, 3, 4, 5, 6, 7, 10, 11, 12, 13, 14].map (bfALL K g z3 y0)).flatten) := by rw [asc2]; exact wbALL_perm [8, 9, 0, 1, 2, 3, 4, 5, 6, 7, 10, 11, 12, 13, 14] (by decide)
        refine z_V (n := 0) (As := []) (rest := []) (ci := 4) (q0 := 9) X hK hN (kX4_refusesWhom l D K (g 8) (g 9) (z3 8) (z3 9) _ r6 hc7) (bw_V W24_7 W24_8 W24_9 W1_22 W24_10) rfl ⟨rfl, rfl⟩ (by decide +kernel) rfl ⟨Nat.le_of_ble_eq_true rfl, Nat.le_of_ble_eq_true rfl⟩ (hP.perm hp8).lef (hD.perm hp8).lef rfl rfl (zj_perm (ws' := wbALL K g z3 y0) hP hD hS hA hp8 (by rw [asc2]; refine List.Perm.symm ?_; exact wbALL_perm [8, 9, 0, 1, 2, 3, 4, 5, 6, 7, 10, 11, 12, 13, 14] (by decide))) hS hl.1 rfl (Nat.le_of_ble_eq_true rfl) dX8_full_34 ⟨Nat.zero_le _, Nat.zero_le _⟩ rfl (fun H locs hP hD hS => ?_)
        obtain ⟨rfl, rfl⟩ := z_inj2 hf
        exact z_iret X hr hlk hP hD hS dX8_full_37
      · have hf := ite_t hf c5
        refine lv_aload_n X.1 X.2.1 dX8_full_20 rfl (lv_at hl 0 rfl) ?_
        refine z_get X hK hP hiX8 0 rfl rfl 3 (by decide) (bw_in W1_23) rfl dX8_full_21 ?_
        obtain ⟨r9, hc10, hf⟩ := bd1_e hf
        have hp11 : List.Perm (wbALL K g z3 y0) ((wbX2 K (g 8) (z3 8) ++ (wbX4 K (g 8 0) (g 9) (z3 9))) ++ ([0, 1, 2, 3, 4, 5, 6, 7, 10, 11, 12, 13, 14].map (bfALL K g z3 y0)).flatten) := by rw [asc2]; exact wbALL_perm [8, 9, 0, 1, 2, 3, 4, 5, 6, 7, 10, 11, 12, 13, 14] (by decide)
        refine z_V (n := 0) (As := []) (rest := []) (ci := 4) (q0 := 9) X hK hN (kX4_refusesBehind l D K (g 8) (g 9) (z3 8) (z3 9) _ r9 hc10) (bw_V W23_23 W24_0 W24_1 W1_22 W24_2) rfl ⟨rfl, rfl⟩ (by decide +kernel) rfl ⟨Nat.le_of_ble_eq_true rfl, Nat.le_of_ble_eq_true rfl⟩ (hP.perm hp11).lef (hD.perm hp11).lef rfl rfl (zj_perm (ws' := wbALL K g z3 y0) hP hD hS hA hp11 (by rw [asc2]; refine List.Perm.symm ?_; exact wbALL_perm [8, 9, 0, 1, 2, 3, 4, 5, 6, 7, 10, 11, 12, 13, 14] (by decide))) hS hl.1 rfl (Nat.le_of_ble_eq_true rfl) dX8_full_24 ⟨Nat.zero_le _, Nat.zero_le _⟩ rfl (fun H locs hP hD hS => ?_)
        refine lv_goto (tgt := 37) X.1 X.2.1 dX8_full_27 (by decide) ?_
        obtain ⟨rfl, rfl⟩ := z_inj2 hf
        exact z_iret X hr hlk hP hD hS dX8_full_37
    · have hf := ite_f hf c2
      refine lv_bipush (v := -2) X.1 X.2.1 dX8_full_9 (by decide) ?_
      obtain ⟨rfl, rfl⟩ := z_inj2 hf
      exact z_iret X hr hlk hP hD hS dX8_full_11
abbrev rmX8_more : Room := { frames := 5, cells := 0, slots := 0, locals := 121 }
set_option maxHeartbeats 4000000 in
set_option maxRecDepth 100000 in
theorem kX8_more (l : Launch) (D : va_G) (K : Nat → ClassId) (g : Nat → Nat → Nat) (z0 : Nat → St) (y0 : Nat → Lt) (sz : Nat) (x1 : Int32) (q_ : Int32) (z_ : Nat → St) (hf : fX8_more z0 y0 x1 = some (q_, z_)) : Met l yX8_more (bw (Cond.code yX8_more cX8_more 2 (some .int))) rmX8_more (va_Pc [.ref (g 0 0), .int x1] (zB D K sz (wbALL K g z0 y0))) (zQ (some (.int q_)) D (va_A (wbALL K g z0 y0) sz) (wbALL K g z_ y0)) 0 0 (va_A (wbALL K g z0 y0) sz) := by
  refine z_of (cc := cX8_more) (maxL := 2) (ret := (some .int)) (own := RX8) (lv := [(0, .ref (g 0 0)), (1, .int x1)]) (by decide) rfl rfl (Nat.le_of_ble_eq_true rfl) rfl ?_
  intro p e s m below meth c X hr hlk hK hN hsz hP hD hA hS hin ls hl
  generalize va_A (wbALL K g z0 y0) sz = A at hD hA hS hN ⊢
  have hiX8 : ∀ w ∈ u_ws RX8 TX8 11, w ∈ (bw (Cond.code yX8_more cX8_more 2 (some .int))) := fun w h => bw_in (inlX8 w h)
  rw [fX8_more] at hf
  refine lv_iload_n X.1 X.2.1 dX8_more_0 rfl (lv_at hl 1 rfl) ?_
  refine lv_iconst (v := -1) X.1 X.2.1 dX8_more_1 (by decide) ?_
  refine lv_icmp_lt (tgt := 10) X.1 X.2.1 dX8_more_2 (by decide) (fun c1 => ?_) (fun c1 => ?_)
  · have hf := ite_t hf c1
    refine lv_bipush (v := -2) X.1 X.2.1 dX8_more_10 (by decide) ?_
    obtain ⟨rfl, rfl⟩ := z_inj2 hf
    exact z_iret X hr hlk hP hD hS dX8_more_12
  · have hf := ite_f hf c1
    refine lv_iload_n X.1 X.2.1 dX8_more_5 rfl (lv_at hl 1 rfl) ?_
    refine lv_iconst (v := 2) X.1 X.2.1 dX8_more_6 (by decide) ?_
    refine lv_icmp_lt (tgt := 13) X.1 X.2.1 dX8_more_7 (by decide) (fun c2 => ?_) (fun c2 => ?_)
    · have hf := ite_t hf c2
      refine lv_aload_n X.1 X.2.1 dX8_more_13 rfl (lv_at hl 0 rfl) ?_
      obtain ⟨z3, hc4, hf⟩ := bd1_e hf
      refine z_V (n := 0) (As := []) (rest := []) (ci := 8) (q0 := 0) X hK hN (kX8_freshen l D K g z0 y0 _ z3 hc4) (bw_V W11_14 W11_15 W11_16 W1_2 W11_17) rfl ⟨rfl, rfl⟩ (by decide +kernel) rfl ⟨Nat.le_of_ble_eq_true rfl, Nat.le_of_ble_eq_true rfl⟩ hP hD rfl rfl (zj_same hD hS hA) hS hl.1 rfl (Nat.le_of_ble_eq_true rfl) dX8_more_14 ⟨Nat.zero_le _, Nat.zero_le _⟩ rfl (fun H locs hP hD hS => ?_)
      refine lv_aload_n X.1 X.2.1 dX8_more_17 rfl (lv_at hl 0 rfl) ?_
      refine z_get X hK hP hiX8 0 rfl rfl 5 (by decide) (bw_in W2_4) rfl dX8_more_18 ?_
      obtain ⟨r5, p6, hc7, hf⟩ := bd2_e hf
      obtain ⟨z8, ez8, hf⟩ := stp_e hf
      obtain ⟨z9, ez9, hf⟩ := stp_e hf
      have hp10 : List.Perm (wbALL K g z3 y0) ((wbX2 K (g 8) (z3 8) ++ (wbX4 K (g 8 0) (g 10) (z3 10) ++ (wbX3 K (g 8 0) (g 10 0) (g 11) (z3 11) (y0 11)))) ++ ([0, 1, 2, 3, 4, 5, 6, 7, 9, 12, 13, 14].map (bfALL K g z3 y0)).flatten) := by rw [asc3]; exact wbALL_perm [8, 10, 11, 0, 1, 2, 3, 4, 5, 6, 7, 9, 12, 13, 14] (by decide)
      refine z_V (n := 0) (As := []) (rest := []) (ci := 3) (q0 := 19) X hK hN (kX3_findMore l D K (g 8) (g 10) (g 11) (z3 8) (z3 10) (z3 11) (y0 11) _ r5 p6 hc7) (bw_V W26_19 W26_20 W26_21 W2_3 W26_22) rfl ⟨rfl, rfl⟩ (by decide +kernel) rfl ⟨Nat.le_of_ble_eq_true rfl, Nat.le_of_ble_eq_true rfl⟩ (hP.perm hp10).lef (hD.perm hp10).lef rfl rfl (zj_perm (ws' := wbALL K g z9 y0) hP hD hS hA hp10 (by rw [ez9, ez8, asc3]; refine List.Perm.symm ?_; exact wbALL_perm [8, 10, 11, 0, 1, 2, 3, 4, 5, 6, 7, 9, 12, 13, 14] (by decide))) hS hl.1 rfl (Nat.le_of_ble_eq_true rfl) dX8_more_21 ⟨Nat.zero_le _, Nat.zero_le _⟩ rfl (fun H locs hP hD hS => ?_)
      refine lv_aload_n X.1 X.2.1 dX8_more_24 rfl (lv_at hl 0 rfl) ?_
      refine z_get X hK hP hiX8 0 rfl rfl 5 (by decide) (bw_in W2_4) rfl dX8_more_25 ?_
      refine lv_iload_n X.1 X.2.1 dX8_more_28 rfl (lv_at hl 1 rfl) ?_
      obtain ⟨r11, hc12, hf⟩ := bd1_e hf
      have hp13 : List.Perm (wbALL K g z9 y0) ((wbX2 K (g 8) (z9 8) ++ (wbX4 K (g 8 0) (g 10) (z9 10) ++ (wbX3 K (g 8 0) (g 10 0) (g 11) (z9 11) (y0 11)))) ++ ([0, 1, 2, 3, 4, 5, 6, 7, 9, 12, 13, 14].map (bfALL K g z9 y0)).flatten) := by rw [asc3]; exact wbALL_perm [8, 10, 11, 0, 1, 2, 3, 4, 5, 6, 7, 9, 12, 13, 14] (by decide)
      refine z_V (n := 1) (As := [.int x1]) (rest := []) (ci := 3) (q0 := 19) X hK hN (kX3_foundMore l D K (g 8) (g 10) (g 11) (z9 8) (z9 10) (z9 11) (y0 11) _ x1 r11 hc12) (bw_V W28_2 W28_3 W28_4 W2_3 W28_5) rfl ⟨rfl, rfl⟩ (by decide +kernel) rfl ⟨Nat.le_of_ble_eq_true rfl, Nat.le_of_ble_eq_true rfl⟩ (hP.perm hp13).lef (hD.perm hp13).lef rfl rfl (zj_perm (ws' := wbALL K g z9 y0) hP hD hS hA hp13 (by rw [asc3]; refine List.Perm.symm ?_; exact wbALL_perm [8, 10, 11, 0, 1, 2, 3, 4, 5, 6, 7, 9, 12, 13, 14] (by decide))) hS hl.1 rfl (Nat.le_of_ble_eq_true rfl) dX8_more_29 ⟨Nat.zero_le _, Nat.zero_le _⟩ rfl (fun H locs hP hD hS => ?_)
      obtain ⟨rfl, rfl⟩ := z_inj2 hf
      exact z_iret X hr hlk hP hD hS dX8_more_32
    · have hf := ite_f hf c2
      refine lv_bipush (v := -2) X.1 X.2.1 dX8_more_10 (by decide) ?_
      obtain ⟨rfl, rfl⟩ := z_inj2 hf
      exact z_iret X hr hlk hP hD hS dX8_more_12
abbrev rmX8_never : Room := { frames := 6, cells := 0, slots := 0, locals := 141 }
set_option maxHeartbeats 4000000 in
set_option maxRecDepth 100000 in
theorem kX8_never (l : Launch) (D : va_G) (K : Nat → ClassId) (g : Nat → Nat → Nat) (z0 : Nat → St) (y0 : Nat → Lt) (sz : Nat)  (q_ : Int32) (z_ : Nat → St) (hf : fX8_never z0 y0 = some (q_, z_)) : Met l yX8_never (bw (Cond.code yX8_never cX8_never 1 (some .int))) rmX8_never (va_Pc [.ref (g 0 0)] (zB D K sz (wbALL K g z0 y0))) (zQ (some (.int q_)) D (va_A (wbALL K g z0 y0) sz) (wbALL K g z_ y0)) 0 0 (va_A (wbALL K g z0 y0) sz) := by
  refine z_of (cc := cX8_never) (maxL := 1) (ret := (some .int)) (own := RX8) (lv := [(0, .ref (g 0 0))]) (by decide) rfl rfl (Nat.le_of_ble_eq_true rfl) rfl ?_
  intro p e s m below meth c X hr hlk hK hN hsz hP hD hA hS hin ls hl
  generalize va_A (wbALL K g z0 y0) sz = A at hD hA hS hN ⊢
  have hiX8 : ∀ w ∈ u_ws RX8 TX8 11, w ∈ (bw (Cond.code yX8_never cX8_never 1 (some .int))) := fun w h => bw_in (inlX8 w h)
  rw [fX8_never] at hf
  refine lv_aload_n X.1 X.2.1 dX8_never_0 rfl (lv_at hl 0 rfl) ?_
  obtain ⟨z1, hc2, hf⟩ := bd1_e hf
  refine z_V (n := 0) (As := []) (rest := []) (ci := 8) (q0 := 0) X hK hN (kX8_freshen l D K g z0 y0 _ z1 hc2) (bw_V W11_14 W11_15 W11_16 W1_2 W11_17) rfl ⟨rfl, rfl⟩ (by decide +kernel) rfl ⟨Nat.le_of_ble_eq_true rfl, Nat.le_of_ble_eq_true rfl⟩ hP hD rfl rfl (zj_same hD hS hA) hS hl.1 rfl (Nat.le_of_ble_eq_true rfl) dX8_never_1 ⟨Nat.zero_le _, Nat.zero_le _⟩ rfl (fun H locs hP hD hS => ?_)
  refine lv_aload_n X.1 X.2.1 dX8_never_4 rfl (lv_at hl 0 rfl) ?_
  refine z_get X hK hP hiX8 0 rfl rfl 8 (by decide) (bw_in W2_16) rfl dX8_never_5 ?_
  obtain ⟨r3, r4, hc5, hf⟩ := bd2_e hf
  obtain ⟨z6, ez6, hf⟩ := stp_e hf
  have hp7 : List.Perm (wbALL K g z1 y0) ((wbX2 K (g 8) (z1 8) ++ (wbX4 K (g 8 0) (g 10) (z1 10) ++ (wbX6 K (g 13) (z1 13) ++ (wbX1 K (g 8 0) (g 10 0) (g 13 0) (g 14) (z1 14))))) ++ ([0, 1, 2, 3, 4, 5, 6, 7, 9, 11, 12].map (bfALL K g z1 y0)).flatten) := by rw [asc4]; exact wbALL_perm [8, 10, 13, 14, 0, 1, 2, 3, 4, 5, 6, 7, 9, 11, 12] (by decide)
  refine z_V (n := 0) (As := []) (rest := []) (ci := 1) (q0 := 22) X hK hN (kX1_neverLeft l D K (g 8) (g 10) (g 13) (g 14) (z1 8) (z1 10) (z1 13) (z1 14) _ r3 r4 hc5) (bw_V W32_13 W32_14 W32_15 W2_15 W32_16) rfl ⟨rfl, rfl⟩ (by decide +kernel) rfl ⟨Nat.le_of_ble_eq_true rfl, Nat.le_of_ble_eq_true rfl⟩ (hP.perm hp7).lef (hD.perm hp7).lef rfl rfl (zj_perm (ws' := wbALL K g z6 y0) hP hD hS hA hp7 (by rw [ez6, asc4]; refine List.Perm.symm ?_; exact wbALL_perm [8, 10, 13, 14, 0, 1, 2, 3, 4, 5, 6, 7, 9, 11, 12] (by decide))) hS hl.1 rfl (Nat.le_of_ble_eq_true rfl) dX8_never_8 ⟨Nat.zero_le _, Nat.zero_le _⟩ rfl (fun H locs hP hD hS => ?_)
  obtain ⟨rfl, rfl⟩ := z_inj2 hf
  exact z_iret X hr hlk hP hD hS dX8_never_11
abbrev rmX8_weigh : Room := { frames := 6, cells := 0, slots := 0, locals := 144 }
set_option maxHeartbeats 4000000 in
set_option maxRecDepth 100000 in
theorem kX8_weigh (l : Launch) (D : va_G) (K : Nat → ClassId) (g : Nat → Nat → Nat) (z0 : Nat → St) (y0 : Nat → Lt) (sz : Nat)  (q_ : Int32) (z_ : Nat → St) (hf : fX8_weigh z0 y0 = some (q_, z_)) : Met l yX8_weigh (bw (Cond.code yX8_weigh cX8_weigh 1 (some .int))) rmX8_weigh (va_Pc [.ref (g 0 0)] (zB D K sz (wbALL K g z0 y0))) (zQ (some (.int q_)) D (va_A (wbALL K g z0 y0) sz) (wbALL K g z_ y0)) 0 0 (va_A (wbALL K g z0 y0) sz) := by
  refine z_of (cc := cX8_weigh) (maxL := 1) (ret := (some .int)) (own := RX8) (lv := [(0, .ref (g 0 0))]) (by decide) rfl rfl (Nat.le_of_ble_eq_true rfl) rfl ?_
  intro p e s m below meth c X hr hlk hK hN hsz hP hD hA hS hin ls hl
  generalize va_A (wbALL K g z0 y0) sz = A at hD hA hS hN ⊢
  have hiX8 : ∀ w ∈ u_ws RX8 TX8 11, w ∈ (bw (Cond.code yX8_weigh cX8_weigh 1 (some .int))) := fun w h => bw_in (inlX8 w h)
  rw [fX8_weigh] at hf
  refine lv_aload_n X.1 X.2.1 dX8_weigh_0 rfl (lv_at hl 0 rfl) ?_
  obtain ⟨z1, hc2, hf⟩ := bd1_e hf
  refine z_V (n := 0) (As := []) (rest := []) (ci := 8) (q0 := 0) X hK hN (kX8_freshen l D K g z0 y0 _ z1 hc2) (bw_V W11_14 W11_15 W11_16 W1_2 W11_17) rfl ⟨rfl, rfl⟩ (by decide +kernel) rfl ⟨Nat.le_of_ble_eq_true rfl, Nat.le_of_ble_eq_true rfl⟩ hP hD rfl rfl (zj_same hD hS hA) hS hl.1 rfl (Nat.le_of_ble_eq_true rfl) dX8_weigh_1 ⟨Nat.zero_le _, Nat.zero_le _⟩ rfl (fun H locs hP hD hS => ?_)
  refine lv_aload_n X.1 X.2.1 dX8_weigh_4 rfl (lv_at hl 0 rfl) ?_
  refine z_get X hK hP hiX8 0 rfl rfl 8 (by decide) (bw_in W2_16) rfl dX8_weigh_5 ?_
  obtain ⟨r3, r4, g5, hc6, hf⟩ := bd3_e hf
  obtain ⟨z7, ez7, hf⟩ := stp_e hf
  obtain ⟨z8, ez8, hf⟩ := stp_e hf
  have hp9 : List.Perm (wbALL K g z1 y0) ((wbX2 K (g 8) (z1 8) ++ (wbX4 K (g 8 0) (g 10) (z1 10) ++ (wbX6 K (g 13) (z1 13) ++ (wbX1 K (g 8 0) (g 10 0) (g 13 0) (g 14) (z1 14))))) ++ ([0, 1, 2, 3, 4, 5, 6, 7, 9, 11, 12].map (bfALL K g z1 y0)).flatten) := by rw [asc4]; exact wbALL_perm [8, 10, 13, 14, 0, 1, 2, 3, 4, 5, 6, 7, 9, 11, 12] (by decide)
  refine z_V (n := 0) (As := []) (rest := []) (ci := 1) (q0 := 22) X hK hN (kX1_bestStep l D K (g 8) (g 10) (g 13) (g 14) (z1 8) (z1 10) (z1 13) (z1 14) _ r3 r4 g5 hc6) (bw_V W34_21 W34_22 W34_23 W2_15 W35_0) rfl ⟨rfl, rfl⟩ (by decide +kernel) rfl ⟨Nat.le_of_ble_eq_true rfl, Nat.le_of_ble_eq_true rfl⟩ (hP.perm hp9).lef (hD.perm hp9).lef rfl rfl (zj_perm (ws' := wbALL K g z8 y0) hP hD hS hA hp9 (by rw [ez8, ez7, asc4]; refine List.Perm.symm ?_; exact wbALL_perm [8, 10, 13, 14, 0, 1, 2, 3, 4, 5, 6, 7, 9, 11, 12] (by decide))) hS hl.1 rfl (Nat.le_of_ble_eq_true rfl) dX8_weigh_8 ⟨Nat.zero_le _, Nat.zero_le _⟩ rfl (fun H locs hP hD hS => ?_)
  obtain ⟨rfl, rfl⟩ := z_inj2 hf
  exact z_iret X hr hlk hP hD hS dX8_weigh_11
abbrev rmX8_leave : Room := { frames := 6, cells := 0, slots := 0, locals := 148 }
set_option maxHeartbeats 4000000 in
set_option maxRecDepth 100000 in
theorem kX8_leave (l : Launch) (D : va_G) (K : Nat → ClassId) (g : Nat → Nat → Nat) (z0 : Nat → St) (y0 : Nat → Lt) (sz : Nat) (x1 : Int32) (x2 : Int32) (x3 : Int32) (q_ : Int32) (z_ : Nat → St) (y_ : Nat → Lt) (hf : fX8_leave z0 y0 x1 x2 x3 = some (q_, z_, y_)) : Met l yX8_leave (bw (Cond.code yX8_leave cX8_leave 4 (some .int))) rmX8_leave (va_Pc [.ref (g 0 0), .int x1, .int x2, .int x3] (zB D K sz (wbALL K g z0 y0))) (zQ (some (.int q_)) D (va_A (wbALL K g z0 y0) sz) (wbALL K g z_ y_)) 0 0 (va_A (wbALL K g z0 y0) sz) := by
  refine z_of (cc := cX8_leave) (maxL := 4) (ret := (some .int)) (own := RX8) (lv := [(0, .ref (g 0 0)), (1, .int x1), (2, .int x2), (3, .int x3)]) (by decide) rfl rfl (Nat.le_of_ble_eq_true rfl) rfl ?_
  intro p e s m below meth c X hr hlk hK hN hsz hP hD hA hS hin ls hl
  generalize va_A (wbALL K g z0 y0) sz = A at hD hA hS hN ⊢
  have hiX8 : ∀ w ∈ u_ws RX8 TX8 11, w ∈ (bw (Cond.code yX8_leave cX8_leave 4 (some .int))) := fun w h => bw_in (inlX8 w h)
  rw [fX8_leave] at hf
  refine lv_aload_n X.1 X.2.1 dX8_leave_0 rfl (lv_at hl 0 rfl) ?_
  obtain ⟨z1, hc2, hf⟩ := bd1_e hf
  refine z_V (n := 0) (As := []) (rest := []) (ci := 8) (q0 := 0) X hK hN (kX8_freshen l D K g z0 y0 _ z1 hc2) (bw_V W11_14 W11_15 W11_16 W1_2 W11_17) rfl ⟨rfl, rfl⟩ (by decide +kernel) rfl ⟨Nat.le_of_ble_eq_true rfl, Nat.le_of_ble_eq_true rfl⟩ hP hD rfl rfl (zj_same hD hS hA) hS hl.1 rfl (Nat.le_of_ble_eq_true rfl) dX8_leave_1 ⟨Nat.zero_le _, Nat.zero_le _⟩ rfl (fun H locs hP hD hS => ?_)
  refine lv_aload_n X.1 X.2.1 dX8_leave_4 rfl (lv_at hl 0 rfl) ?_
  refine lv_iload_n X.1 X.2.1 dX8_leave_5 rfl (lv_at hl 1 rfl) ?_
  obtain ⟨r3, hc4, hf⟩ := bd1_e hf
  refine z_V (n := 1) (As := [.int x1]) (rest := []) (ci := 8) (q0 := 0) X hK hN (kX8_noSuchRider l D K g z1 y0 _ x1 r3 hc4) (bw_V W16_0 W16_1 W16_2 W1_2 W16_3) rfl ⟨rfl, rfl⟩ (by decide +kernel) rfl ⟨Nat.le_of_ble_eq_true rfl, Nat.le_of_ble_eq_true rfl⟩ hP hD rfl rfl (zj_same hD hS hA) hS hl.1 rfl (Nat.le_of_ble_eq_true rfl) dX8_leave_6 ⟨Nat.zero_le _, Nat.zero_le _⟩ rfl (fun H locs hP hD hS => ?_)
  refine lv_if_ne (tgt := 30) X.1 X.2.1 dX8_leave_9 (by decide) (fun c5 => ?_) (fun c5 => ?_)
  · have hf := ite_f hf c5
    refine lv_bipush (v := -2) X.1 X.2.1 dX8_leave_30 (by decide) ?_
    obtain ⟨rfl, rfl, rfl⟩ := z_inj3 hf
    exact z_iret X hr hlk hP hD hS dX8_leave_32
  · have hf := ite_t hf c5
    refine lv_aload_n X.1 X.2.1 dX8_leave_12 rfl (lv_at hl 0 rfl) ?_
    refine lv_iload_n X.1 X.2.1 dX8_leave_13 rfl (lv_at hl 2 rfl) ?_
    obtain ⟨r6, hc7, hf⟩ := bd1_e hf
    refine z_V (n := 1) (As := [.int x2]) (rest := []) (ci := 8) (q0 := 0) X hK hN (kX8_noSuchLeaver l D K g z1 y0 _ x2 r6 hc7) (bw_V W17_3 W17_4 W17_5 W1_2 W17_6) rfl ⟨rfl, rfl⟩ (by decide +kernel) rfl ⟨Nat.le_of_ble_eq_true rfl, Nat.le_of_ble_eq_true rfl⟩ hP hD rfl rfl (zj_same hD hS hA) hS hl.1 rfl (Nat.le_of_ble_eq_true rfl) dX8_leave_14 ⟨Nat.zero_le _, Nat.zero_le _⟩ rfl (fun H locs hP hD hS => ?_)
    refine lv_if_ne (tgt := 30) X.1 X.2.1 dX8_leave_17 (by decide) (fun c8 => ?_) (fun c8 => ?_)
    · have hf := ite_f hf c8
      refine lv_bipush (v := -2) X.1 X.2.1 dX8_leave_30 (by decide) ?_
      obtain ⟨rfl, rfl, rfl⟩ := z_inj3 hf
      exact z_iret X hr hlk hP hD hS dX8_leave_32
    · have hf := ite_t hf c8
      refine lv_iload_n X.1 X.2.1 dX8_leave_20 rfl (lv_at hl 3 rfl) ?_
      refine lv_iconst (v := -1) X.1 X.2.1 dX8_leave_21 (by decide) ?_
      refine lv_icmp_lt (tgt := 30) X.1 X.2.1 dX8_leave_22 (by decide) (fun c9 => ?_) (fun c9 => ?_)
      · have hf := ite_t hf c9
        refine lv_bipush (v := -2) X.1 X.2.1 dX8_leave_30 (by decide) ?_
        obtain ⟨rfl, rfl, rfl⟩ := z_inj3 hf
        exact z_iret X hr hlk hP hD hS dX8_leave_32
      · have hf := ite_f hf c9
        refine lv_iload_n X.1 X.2.1 dX8_leave_25 rfl (lv_at hl 3 rfl) ?_
        refine lv_iconst (v := 2) X.1 X.2.1 dX8_leave_26 (by decide) ?_
        refine lv_icmp_lt (tgt := 33) X.1 X.2.1 dX8_leave_27 (by decide) (fun c10 => ?_) (fun c10 => ?_)
        · have hf := ite_t hf c10
          refine lv_aload_n X.1 X.2.1 dX8_leave_33 rfl (lv_at hl 0 rfl) ?_
          refine z_get X hK hP hiX8 0 rfl rfl 5 (by decide) (bw_in W2_4) rfl dX8_leave_34 ?_
          refine lv_iload_n X.1 X.2.1 dX8_leave_37 rfl (lv_at hl 1 rfl) ?_
          refine lv_iload_n X.1 X.2.1 dX8_leave_38 rfl (lv_at hl 2 rfl) ?_
          obtain ⟨r11, p12, pL13, hc14, hf⟩ := bd3_e hf
          obtain ⟨z15, ez15, hf⟩ := stp_e hf
          obtain ⟨z16, ez16, hf⟩ := stp_e hf
          obtain ⟨y17, ey17, hf⟩ := stp_e hf
          have hp18 : List.Perm (wbALL K g z1 y0) ((wbX2 K (g 8) (z1 8) ++ (wbX4 K (g 8 0) (g 10) (z1 10) ++ (wbX3 K (g 8 0) (g 10 0) (g 11) (z1 11) (y0 11)))) ++ ([0, 1, 2, 3, 4, 5, 6, 7, 9, 12, 13, 14].map (bfALL K g z1 y0)).flatten) := by rw [asc3]; exact wbALL_perm [8, 10, 11, 0, 1, 2, 3, 4, 5, 6, 7, 9, 12, 13, 14] (by decide)
          refine z_V (n := 2) (As := [.int x1, .int x2]) (rest := []) (ci := 3) (q0 := 19) X hK hN (kX3_findOut l D K (g 8) (g 10) (g 11) (z1 8) (z1 10) (z1 11) (y0 11) _ x1 x2 r11 p12 pL13 hc14) (bw_V W29_2 W29_3 W29_4 W2_3 W29_5) rfl ⟨rfl, rfl⟩ (by decide +kernel) rfl ⟨Nat.le_of_ble_eq_true rfl, Nat.le_of_ble_eq_true rfl⟩ (hP.perm hp18).lef (hD.perm hp18).lef rfl rfl (zj_perm (ws' := wbALL K g z16 y17) hP hD hS hA hp18 (by rw [ey17, ez16, ez15, asc3]; refine List.Perm.symm ?_; exact wbALL_perm [8, 10, 11, 0, 1, 2, 3, 4, 5, 6, 7, 9, 12, 13, 14] (by decide))) hS hl.1 rfl (Nat.le_of_ble_eq_true rfl) dX8_leave_39 ⟨Nat.zero_le _, Nat.zero_le _⟩ rfl (fun H locs hP hD hS => ?_)
          refine lv_aload_n X.1 X.2.1 dX8_leave_42 rfl (lv_at hl 0 rfl) ?_
          refine z_get X hK hP hiX8 0 rfl rfl 5 (by decide) (bw_in W2_4) rfl dX8_leave_43 ?_
          refine lv_iload_n X.1 X.2.1 dX8_leave_46 rfl (lv_at hl 3 rfl) ?_
          obtain ⟨r19, hc20, hf⟩ := bd1_e hf
          have hp21 : List.Perm (wbALL K g z16 y17) ((wbX2 K (g 8) (z16 8) ++ (wbX4 K (g 8 0) (g 10) (z16 10) ++ (wbX3 K (g 8 0) (g 10 0) (g 11) (z16 11) (y17 11)))) ++ ([0, 1, 2, 3, 4, 5, 6, 7, 9, 12, 13, 14].map (bfALL K g z16 y17)).flatten) := by rw [asc3]; exact wbALL_perm [8, 10, 11, 0, 1, 2, 3, 4, 5, 6, 7, 9, 12, 13, 14] (by decide)
          refine z_V (n := 1) (As := [.int x3]) (rest := []) (ci := 3) (q0 := 19) X hK hN (kX3_foundOut l D K (g 8) (g 10) (g 11) (z16 8) (z16 10) (z16 11) (y17 11) _ x3 r19 hc20) (bw_V W29_12 W29_13 W29_14 W2_3 W29_15) rfl ⟨rfl, rfl⟩ (by decide +kernel) rfl ⟨Nat.le_of_ble_eq_true rfl, Nat.le_of_ble_eq_true rfl⟩ (hP.perm hp21).lef (hD.perm hp21).lef rfl rfl (zj_perm (ws' := wbALL K g z16 y17) hP hD hS hA hp21 (by rw [asc3]; refine List.Perm.symm ?_; exact wbALL_perm [8, 10, 11, 0, 1, 2, 3, 4, 5, 6, 7, 9, 12, 13, 14] (by decide))) hS hl.1 rfl (Nat.le_of_ble_eq_true rfl) dX8_leave_47 ⟨Nat.zero_le _, Nat.zero_le _⟩ rfl (fun H locs hP hD hS => ?_)
          obtain ⟨rfl, rfl, rfl⟩ := z_inj3 hf
          exact z_iret X hr hlk hP hD hS dX8_leave_50
        · have hf := ite_f hf c10
          refine lv_bipush (v := -2) X.1 X.2.1 dX8_leave_30 (by decide) ?_
          obtain ⟨rfl, rfl, rfl⟩ := z_inj3 hf
          exact z_iret X hr hlk hP hD hS dX8_leave_32
