abbrev rmX4_letOut : Room := { frames := 1, cells := 0, slots := 0, locals := 21 }
set_option maxHeartbeats 4000000 in
set_option maxRecDepth 100000 in
theorem kX4_letOut (l : Launch) (D : va_G) (K : Nat → ClassId) (aH : Nat → Nat) (aR : Nat → Nat) (h0 : St) (r0 : St) (sz : Nat) (x1 : Int32) (r_ : St) (hf : fX4_letOut h0 r0 x1 = some r_) : Met l yX4_letOut (bw (Cond.code yX4_letOut cX4_letOut 6 none)) rmX4_letOut (va_Pc [.ref (aR 0), .int x1] (zB D K sz (wbX2 K aH h0 ++ (wbX4 K (aH 0) aR r0)))) (zQ (none) D (va_A (wbX2 K aH h0 ++ (wbX4 K (aH 0) aR r0)) sz) (wbX2 K aH h0 ++ (wbX4 K (aH 0) aR r_))) 0 0 (va_A (wbX2 K aH h0 ++ (wbX4 K (aH 0) aR r0)) sz) := by
  refine z_of (cc := cX4_letOut) (maxL := 6) (ret := none) (own := RX4) (lv := [(0, .ref (aR 0)), (1, .int x1)]) (by decide) rfl rfl (Nat.le_of_ble_eq_true rfl) rfl ?_
  intro p e s m below meth c X hr hlk hK hN hsz hP hD hA hS hin ls hl
  generalize va_A (wbX2 K aH h0 ++ (wbX4 K (aH 0) aR r0)) sz = A at hD hA hS hN ⊢
  have hiX2 : ∀ w ∈ u_ws RX2 TX2 14, w ∈ (bw (Cond.code yX4_letOut cX4_letOut 6 none)) := fun w h => bw_in (inlX2 w h)
  have hiX4 : ∀ w ∈ u_ws RX4 TX4 12, w ∈ (bw (Cond.code yX4_letOut cX4_letOut 6 none)) := fun w h => bw_in (inlX4 w h)
  have L53_0 : ∀ (n : Nat), ∀ (n53_0 : Int32) (n53_1 : Int32) (n53_2 : Int32) (n53_3 : Int32) (q53_R : St), fX4_letOut_53 h0 n n53_0 n53_1 n53_2 n53_3 q53_R = some r_ → ∀ (H : Heap) (locs : List Loc), va_P D vwCl (wbX2 K aH h0 ++ (wbX4 K (aH 0) aR q53_R)) H → va_D A (wbX2 K aH h0 ++ (wbX4 K (aH 0) aR q53_R)) → va_S A s.heap H locs → ∀ (ls : Array Slot), lv_has ls 6 [(0, .ref (aR 0)), (2, .int n53_0), (3, .int n53_1), (4, .int n53_2), (5, .int n53_3)] → W p l e rmX4_letOut s m ([.ref (aR 0), .int x1] : List Value).toArray below meth c H locs 0 0 (MQ below (zQ (none) D A (wbX2 K aH h0 ++ (wbX4 K (aH 0) aR r_))) ([.ref (aR 0), .int x1] : List Value).toArray s 0 0 A) (F0 m 53 ls []) := by
    intro n
    induction n with
    | zero =>
      intro n53_0 n53_1 n53_2 n53_3 q53_R hf
      rw [fX4_letOut_53] at hf
      cases hf
    | succ n ih =>
      intro n53_0 n53_1 n53_2 n53_3 q53_R hf H locs hP hD hS ls hl
      rw [fX4_letOut_53] at hf
      refine lv_iload X.1 X.2.1 dX4_letOut_53 (lv_at hl 4 rfl) ?_
      refine lv_bipush (v := 8) X.1 X.2.1 dX4_letOut_55 (by decide) ?_
      refine lv_icmp_ge (tgt := 120) X.1 X.2.1 dX4_letOut_57 (by decide) (fun c9 => ?_) (fun c9 => ?_)
      · have hf := ite_t hf c9
        refine lv_aload_n X.1 X.2.1 dX4_letOut_120 rfl (lv_at hl 0 rfl) ?_
        refine z_get X hK hP hiX4 9 rfl rfl 4 (by decide) (bw_in W4_0) rfl dX4_letOut_121 ?_
        refine lv_iload_n X.1 X.2.1 dX4_letOut_124 rfl (lv_at hl 1 rfl) ?_
        refine lv_dup2_11 X.1 X.2.1 dX4_letOut_125 rfl rfl ?_
        obtain ⟨hi11, hf⟩ := chk_e hf
        obtain ⟨v10, ev10, hf⟩ := stp_e hf
        refine z_iald X hK hP 13 rfl hi11 ev10 dX4_letOut_126 ?_
        refine lv_iload_n X.1 X.2.1 dX4_letOut_127 rfl (lv_at hl 2 rfl) ?_
        refine lv_iconst (v := -1) X.1 X.2.1 dX4_letOut_128 (by decide) ?_
        refine lv_ixor X.1 X.2.1 dX4_letOut_129 ?_
        refine lv_iand X.1 X.2.1 dX4_letOut_130 ?_
        obtain ⟨hi12, hf⟩ := chk_e hf
        obtain ⟨r13, er13, hf⟩ := stp_e hf
        refine z_iast (ws' := wbX2 K aH h0 ++ (wbX4 K (aH 0) aR r13)) X hK hP hD hS 13 rfl hi12 dX4_letOut_131 (by rw [er13]; rfl) (fun H locs hP hD hS => ?_)
        refine lv_aload_n X.1 X.2.1 dX4_letOut_132 rfl (lv_at hl 0 rfl) ?_
        refine z_get X hK hP hiX4 9 rfl rfl 7 (by decide) (bw_in W4_3) rfl dX4_letOut_133 ?_
        refine lv_iload_n X.1 X.2.1 dX4_letOut_136 rfl (lv_at hl 1 rfl) ?_
        refine lv_dup2_11 X.1 X.2.1 dX4_letOut_137 rfl rfl ?_
        obtain ⟨hi15, hf⟩ := chk_e hf
        obtain ⟨v14, ev14, hf⟩ := stp_e hf
        refine z_iald X hK hP 16 rfl hi15 ev14 dX4_letOut_138 ?_
        refine lv_iload_n X.1 X.2.1 dX4_letOut_139 rfl (lv_at hl 2 rfl) ?_
        refine lv_ior X.1 X.2.1 dX4_letOut_140 ?_
        obtain ⟨hi16, hf⟩ := chk_e hf
        obtain ⟨r17, er17, hf⟩ := stp_e hf
        refine z_iast (ws' := wbX2 K aH h0 ++ (wbX4 K (aH 0) aR r17)) X hK hP hD hS 16 rfl hi16 dX4_letOut_141 (by rw [er17]; rfl) (fun H locs hP hD hS => ?_)
        refine lv_aload_n X.1 X.2.1 dX4_letOut_142 rfl (lv_at hl 0 rfl) ?_
        refine z_get X hK hP hiX4 9 rfl rfl 5 (by decide) (bw_in W4_1) rfl dX4_letOut_143 ?_
        refine lv_iload_n X.1 X.2.1 dX4_letOut_146 rfl (lv_at hl 1 rfl) ?_
        refine lv_dup2_11 X.1 X.2.1 dX4_letOut_147 rfl rfl ?_
        obtain ⟨hi19, hf⟩ := chk_e hf
        obtain ⟨v18, ev18, hf⟩ := stp_e hf
        refine z_iald X hK hP 14 rfl hi19 ev18 dX4_letOut_148 ?_
        refine lv_iload X.1 X.2.1 dX4_letOut_149 (lv_at hl 3 rfl) ?_
        refine lv_iconst (v := -1) X.1 X.2.1 dX4_letOut_151 (by decide) ?_
        refine lv_ixor X.1 X.2.1 dX4_letOut_152 ?_
        refine lv_iand X.1 X.2.1 dX4_letOut_153 ?_
        obtain ⟨hi20, hf⟩ := chk_e hf
        obtain ⟨r21, er21, hf⟩ := stp_e hf
        refine z_iast (ws' := wbX2 K aH h0 ++ (wbX4 K (aH 0) aR r21)) X hK hP hD hS 14 rfl hi20 dX4_letOut_154 (by rw [er21]; rfl) (fun H locs hP hD hS => ?_)
        refine lv_aload_n X.1 X.2.1 dX4_letOut_155 rfl (lv_at hl 0 rfl) ?_
        refine z_get X hK hP hiX4 9 rfl rfl 6 (by decide) (bw_in W4_2) rfl dX4_letOut_156 ?_
        refine lv_iload_n X.1 X.2.1 dX4_letOut_159 rfl (lv_at hl 1 rfl) ?_
        refine lv_dup2_11 X.1 X.2.1 dX4_letOut_160 rfl rfl ?_
        obtain ⟨hi23, hf⟩ := chk_e hf
        obtain ⟨v22, ev22, hf⟩ := stp_e hf
        refine z_iald X hK hP 15 rfl hi23 ev22 dX4_letOut_161 ?_
        refine lv_iload X.1 X.2.1 dX4_letOut_162 (lv_at hl 3 rfl) ?_
        refine lv_ior X.1 X.2.1 dX4_letOut_164 ?_
        obtain ⟨hi24, hf⟩ := chk_e hf
        obtain ⟨r25, er25, hf⟩ := stp_e hf
        refine z_iast (ws' := wbX2 K aH h0 ++ (wbX4 K (aH 0) aR r25)) X hK hP hD hS 15 rfl hi24 dX4_letOut_165 (by rw [er25]; rfl) (fun H locs hP hD hS => ?_)
        obtain rfl := z_inj1 hf
        exact z_vret X hr hlk hP hD hS dX4_letOut_166
      · have hf := ite_f hf c9
        refine lv_aload_n X.1 X.2.1 dX4_letOut_60 rfl (lv_at hl 0 rfl) ?_
        refine z_get X hK hP hiX4 9 rfl rfl 3 (by decide) (bw_in W3_23) rfl dX4_letOut_61 ?_
        refine lv_iload_n X.1 X.2.1 dX4_letOut_64 rfl (lv_at hl 1 rfl) ?_
        refine lv_dup2_11 X.1 X.2.1 dX4_letOut_65 rfl rfl ?_
        obtain ⟨hi27, hf⟩ := chk_e hf
        obtain ⟨v26, ev26, hf⟩ := stp_e hf
        refine z_iald X hK hP 12 rfl hi27 ev26 dX4_letOut_66 ?_
        refine lv_iload_n X.1 X.2.1 dX4_letOut_67 rfl (lv_at hl 2 rfl) ?_
        refine lv_iload X.1 X.2.1 dX4_letOut_68 (lv_at hl 4 rfl) ?_
        obtain ⟨r28, hc29, hf⟩ := bd1_e hf
        refine z_SN (n := 2) (As := [.int n53_1, .int n53_3]) (rest := [.int v26, .int n53_0, .ref (aR 4)]) (host := "LeaversFloor") X hK hN (kX8_has l D K _ n53_1 n53_3 r28 hc29) (bw_G W13_15) (by decide) (bw_in W1_2) (bw_in W13_14) rfl ⟨rfl, rfl⟩ (by decide +kernel) rfl ⟨Nat.le_of_ble_eq_true rfl, Nat.le_of_ble_eq_true rfl⟩ (fun _ _ h => by simp at h) ⟨fun _ _ _ _ h => by simp at h, fun _ _ h => by simp at h⟩ (zj_none hP hD hS hA) hS hl.1 rfl (Nat.le_of_ble_eq_true rfl) dX4_letOut_70 ⟨Nat.zero_le _, Nat.zero_le _⟩ rfl (fun H locs hP hD hS => ?_)
        refine lv_if_eq (tgt := 89) X.1 X.2.1 dX4_letOut_73 (by decide) (fun c30 => ?_) (fun c30 => ?_)
        · have hf := ite_t hf c30
          refine lv_iconst (v := 0) X.1 X.2.1 dX4_letOut_89 (by decide) ?_
          refine lv_iload X.1 X.2.1 dX4_letOut_90 (lv_at hl 3 rfl) ?_
          refine lv_iload X.1 X.2.1 dX4_letOut_92 (lv_at hl 4 rfl) ?_
          obtain ⟨r31, hc32, hf⟩ := bd1_e hf
          refine z_SN (n := 2) (As := [.int n53_2, .int n53_3]) (rest := [.int 0, .int v26, .int n53_0, .ref (aR 4)]) (host := "LeaversFloor") X hK hN (kX8_has l D K _ n53_2 n53_3 r31 hc32) (bw_G W13_15) (by decide) (bw_in W1_2) (bw_in W13_14) rfl ⟨rfl, rfl⟩ (by decide +kernel) rfl ⟨Nat.le_of_ble_eq_true rfl, Nat.le_of_ble_eq_true rfl⟩ (fun _ _ h => by simp at h) ⟨fun _ _ _ _ h => by simp at h, fun _ _ h => by simp at h⟩ (zj_none hP hD hS hA) hS hl.1 rfl (Nat.le_of_ble_eq_true rfl) dX4_letOut_94 ⟨Nat.zero_le _, Nat.zero_le _⟩ rfl (fun H locs hP hD hS => ?_)
          refine lv_if_eq (tgt := 110) X.1 X.2.1 dX4_letOut_97 (by decide) (fun c33 => ?_) (fun c33 => ?_)
          · have hf := ite_t hf c33
            refine lv_iconst (v := 0) X.1 X.2.1 dX4_letOut_110 (by decide) ?_
            refine lv_iadd X.1 X.2.1 dX4_letOut_111 ?_
            refine lv_isub X.1 X.2.1 dX4_letOut_112 ?_
            obtain ⟨hi34, hf⟩ := chk_e hf
            obtain ⟨r35, er35, hf⟩ := stp_e hf
            refine z_iast (ws' := wbX2 K aH h0 ++ (wbX4 K (aH 0) aR r35)) X hK hP hD hS 12 rfl hi34 dX4_letOut_113 (by rw [er35]; rfl) (fun H locs hP hD hS => ?_)
            obtain ⟨w36, ew36, hf⟩ := stp_e hf
            refine lv_iinc (v := w36) (lv' := [(5, .int w36), (0, .ref (aR 0)), (2, .int n53_0), (3, .int n53_1), (4, .int n53_2)]) X.1 X.2.1 dX4_letOut_114 hl (k := 4) rfl (by rw [ew36]; rfl) (by decide) rfl (fun ls hl => ?_)
            refine lv_goto (tgt := 53) X.1 X.2.1 dX4_letOut_117 (by decide) ?_
            exact ih _ _ _ _ _ hf _ _ hP hD hS _ (lv_sub hl [1, 2, 3, 4, 0] rfl)
          · have hf := ite_f hf c33
            refine lv_aload_n X.1 X.2.1 dX4_letOut_100 rfl (lv_at hl 0 rfl) ?_
            refine z_get X hK hP hiX4 9 rfl rfl 11 (by decide) (bw_in W4_7) rfl dX4_letOut_101 ?_
            refine lv_iload X.1 X.2.1 dX4_letOut_104 (lv_at hl 4 rfl) ?_
            obtain ⟨hi38, hf⟩ := chk_e hf
            obtain ⟨v37, ev37, hf⟩ := stp_e hf
            refine z_iald X hK hP 18 rfl hi38 ev37 dX4_letOut_106 ?_
            refine lv_goto (tgt := 111) X.1 X.2.1 dX4_letOut_107 (by decide) ?_
            refine lv_iadd X.1 X.2.1 dX4_letOut_111 ?_
            refine lv_isub X.1 X.2.1 dX4_letOut_112 ?_
            obtain ⟨hi39, hf⟩ := chk_e hf
            obtain ⟨r40, er40, hf⟩ := stp_e hf
            refine z_iast (ws' := wbX2 K aH h0 ++ (wbX4 K (aH 0) aR r40)) X hK hP hD hS 12 rfl hi39 dX4_letOut_113 (by rw [er40]; rfl) (fun H locs hP hD hS => ?_)
            obtain ⟨w41, ew41, hf⟩ := stp_e hf
            refine lv_iinc (v := w41) (lv' := [(5, .int w41), (0, .ref (aR 0)), (2, .int n53_0), (3, .int n53_1), (4, .int n53_2)]) X.1 X.2.1 dX4_letOut_114 hl (k := 4) rfl (by rw [ew41]; rfl) (by decide) rfl (fun ls hl => ?_)
            refine lv_goto (tgt := 53) X.1 X.2.1 dX4_letOut_117 (by decide) ?_
            exact ih _ _ _ _ _ hf _ _ hP hD hS _ (lv_sub hl [1, 2, 3, 4, 0] rfl)
        · have hf := ite_f hf c30
          refine lv_aload_n X.1 X.2.1 dX4_letOut_76 rfl (lv_at hl 0 rfl) ?_
          refine z_get X hK hP hiX4 9 rfl rfl 0 (by decide) (bw_in W4_8) rfl dX4_letOut_77 ?_
          refine z_get X hK hP hiX2 0 rfl rfl 6 (by decide) (bw_in W13_21) rfl dX4_letOut_80 ?_
          refine lv_iload X.1 X.2.1 dX4_letOut_83 (lv_at hl 4 rfl) ?_
          obtain ⟨hi43, hf⟩ := chk_e hf
          obtain ⟨v42, ev42, hf⟩ := stp_e hf
          refine z_iald X hK hP 1 rfl hi43 ev42 dX4_letOut_85 ?_
          refine lv_goto (tgt := 90) X.1 X.2.1 dX4_letOut_86 (by decide) ?_
          refine lv_iload X.1 X.2.1 dX4_letOut_90 (lv_at hl 3 rfl) ?_
          refine lv_iload X.1 X.2.1 dX4_letOut_92 (lv_at hl 4 rfl) ?_
          obtain ⟨r44, hc45, hf⟩ := bd1_e hf
          refine z_SN (n := 2) (As := [.int n53_2, .int n53_3]) (rest := [.int v42, .int v26, .int n53_0, .ref (aR 4)]) (host := "LeaversFloor") X hK hN (kX8_has l D K _ n53_2 n53_3 r44 hc45) (bw_G W13_15) (by decide) (bw_in W1_2) (bw_in W13_14) rfl ⟨rfl, rfl⟩ (by decide +kernel) rfl ⟨Nat.le_of_ble_eq_true rfl, Nat.le_of_ble_eq_true rfl⟩ (fun _ _ h => by simp at h) ⟨fun _ _ _ _ h => by simp at h, fun _ _ h => by simp at h⟩ (zj_none hP hD hS hA) hS hl.1 rfl (Nat.le_of_ble_eq_true rfl) dX4_letOut_94 ⟨Nat.zero_le _, Nat.zero_le _⟩ rfl (fun H locs hP hD hS => ?_)
          refine lv_if_eq (tgt := 110) X.1 X.2.1 dX4_letOut_97 (by decide) (fun c46 => ?_) (fun c46 => ?_)
          · have hf := ite_t hf c46
            refine lv_iconst (v := 0) X.1 X.2.1 dX4_letOut_110 (by decide) ?_
            refine lv_iadd X.1 X.2.1 dX4_letOut_111 ?_
            refine lv_isub X.1 X.2.1 dX4_letOut_112 ?_
            obtain ⟨hi47, hf⟩ := chk_e hf
            obtain ⟨r48, er48, hf⟩ := stp_e hf
            refine z_iast (ws' := wbX2 K aH h0 ++ (wbX4 K (aH 0) aR r48)) X hK hP hD hS 12 rfl hi47 dX4_letOut_113 (by rw [er48]; rfl) (fun H locs hP hD hS => ?_)
            obtain ⟨w49, ew49, hf⟩ := stp_e hf
            refine lv_iinc (v := w49) (lv' := [(5, .int w49), (0, .ref (aR 0)), (2, .int n53_0), (3, .int n53_1), (4, .int n53_2)]) X.1 X.2.1 dX4_letOut_114 hl (k := 4) rfl (by rw [ew49]; rfl) (by decide) rfl (fun ls hl => ?_)
            refine lv_goto (tgt := 53) X.1 X.2.1 dX4_letOut_117 (by decide) ?_
            exact ih _ _ _ _ _ hf _ _ hP hD hS _ (lv_sub hl [1, 2, 3, 4, 0] rfl)
          · have hf := ite_f hf c46
            refine lv_aload_n X.1 X.2.1 dX4_letOut_100 rfl (lv_at hl 0 rfl) ?_
            refine z_get X hK hP hiX4 9 rfl rfl 11 (by decide) (bw_in W4_7) rfl dX4_letOut_101 ?_
            refine lv_iload X.1 X.2.1 dX4_letOut_104 (lv_at hl 4 rfl) ?_
            obtain ⟨hi51, hf⟩ := chk_e hf
            obtain ⟨v50, ev50, hf⟩ := stp_e hf
            refine z_iald X hK hP 18 rfl hi51 ev50 dX4_letOut_106 ?_
            refine lv_goto (tgt := 111) X.1 X.2.1 dX4_letOut_107 (by decide) ?_
            refine lv_iadd X.1 X.2.1 dX4_letOut_111 ?_
            refine lv_isub X.1 X.2.1 dX4_letOut_112 ?_
            obtain ⟨hi52, hf⟩ := chk_e hf
            obtain ⟨r53, er53, hf⟩ := stp_e hf
            refine z_iast (ws' := wbX2 K aH h0 ++ (wbX4 K (aH 0) aR r53)) X hK hP hD hS 12 rfl hi52 dX4_letOut_113 (by rw [er53]; rfl) (fun H locs hP hD hS => ?_)
            obtain ⟨w54, ew54, hf⟩ := stp_e hf
            refine lv_iinc (v := w54) (lv' := [(5, .int w54), (0, .ref (aR 0)), (2, .int n53_0), (3, .int n53_1), (4, .int n53_2)]) X.1 X.2.1 dX4_letOut_114 hl (k := 4) rfl (by rw [ew54]; rfl) (by decide) rfl (fun ls hl => ?_)
            refine lv_goto (tgt := 53) X.1 X.2.1 dX4_letOut_117 (by decide) ?_
            exact ih _ _ _ _ _ hf _ _ hP hD hS _ (lv_sub hl [1, 2, 3, 4, 0] rfl)
  rw [fX4_letOut] at hf
  refine lv_aload_n X.1 X.2.1 dX4_letOut_0 rfl (lv_at hl 0 rfl) ?_
  refine z_get X hK hP hiX4 9 rfl rfl 9 (by decide) (bw_in W4_5) rfl dX4_letOut_1 ?_
  refine lv_iconst (v := 1) X.1 X.2.1 dX4_letOut_4 (by decide) ?_
  refine lv_isub X.1 X.2.1 dX4_letOut_5 ?_
  obtain ⟨w1, ew1, hf⟩ := stp_e hf
  refine z_top ew1 ?_
  refine lv_istore_n (lv' := [(2, .int w1), (0, .ref (aR 0)), (1, .int x1)]) X.1 X.2.1 dX4_letOut_6 rfl hl (by decide) rfl (fun ls hl => ?_)
  refine lv_aload_n X.1 X.2.1 dX4_letOut_7 rfl (lv_at hl 1 rfl) ?_
  refine z_get X hK hP hiX4 9 rfl rfl 4 (by decide) (bw_in W4_0) rfl dX4_letOut_8 ?_
  refine lv_iload_n X.1 X.2.1 dX4_letOut_11 rfl (lv_at hl 0 rfl) ?_
  obtain ⟨hi3, hf⟩ := chk_e hf
  obtain ⟨v2, ev2, hf⟩ := stp_e hf
  refine z_iald X hK hP 13 rfl hi3 ev2 dX4_letOut_12 ?_
  refine lv_aload_n X.1 X.2.1 dX4_letOut_13 rfl (lv_at hl 1 rfl) ?_
  refine z_get X hK hP hiX4 9 rfl rfl 0 (by decide) (bw_in W4_8) rfl dX4_letOut_14 ?_
  refine z_get X hK hP hiX2 0 rfl rfl 13 (by decide) (bw_in W15_10) rfl dX4_letOut_17 ?_
  refine lv_iload_n X.1 X.2.1 dX4_letOut_20 rfl (lv_at hl 2 rfl) ?_
  obtain ⟨hi5, hf⟩ := chk_e hf
  obtain ⟨v4, ev4, hf⟩ := stp_e hf
  refine z_iald X hK hP 8 rfl hi5 ev4 dX4_letOut_21 ?_
  refine lv_iand X.1 X.2.1 dX4_letOut_22 ?_
  obtain ⟨w6, ew6, hf⟩ := stp_e hf
  refine z_top ew6 ?_
  refine lv_istore_n (lv' := [(3, .int w6), (2, .int w1), (0, .ref (aR 0)), (1, .int x1)]) X.1 X.2.1 dX4_letOut_23 rfl hl (by decide) rfl (fun ls hl => ?_)
  refine lv_iload_n X.1 X.2.1 dX4_letOut_24 rfl (lv_at hl 3 rfl) ?_
  refine lv_if_ne (tgt := 37) X.1 X.2.1 dX4_letOut_25 (by decide) (fun c7 => ?_) (fun c7 => ?_)
  · have hf := ite_f hf c7
    refine lv_iconst (v := 0) X.1 X.2.1 dX4_letOut_37 (by decide) ?_
    refine lv_istore (lv' := [(4, .int 0), (3, .int w6), (2, .int w1), (0, .ref (aR 0)), (1, .int x1)]) X.1 X.2.1 dX4_letOut_38 hl (by decide) rfl (fun ls hl => ?_)
    refine lv_iload_n X.1 X.2.1 dX4_letOut_40 rfl (lv_at hl 1 rfl) ?_
    refine lv_if_ne (tgt := 50) X.1 X.2.1 dX4_letOut_41 (by decide) (fun c8 => ?_) (fun c8 => ?_)
    · have hf := ite_f hf c8
      refine lv_iconst (v := 0) X.1 X.2.1 dX4_letOut_50 (by decide) ?_
      refine lv_istore (lv' := [(5, .int 0), (4, .int 0), (3, .int w6), (2, .int w1), (0, .ref (aR 0)), (1, .int x1)]) X.1 X.2.1 dX4_letOut_51 hl (by decide) rfl (fun ls hl => ?_)
      exact L53_0  _ _ _ _ _ _ hf _ _ hP hD hS _ (lv_sub hl [4, 3, 2, 1, 0] rfl)
    · have hf := ite_t hf c8
      refine lv_iload X.1 X.2.1 dX4_letOut_44 (lv_at hl 0 rfl) ?_
      refine lv_if_ne (tgt := 50) X.1 X.2.1 dX4_letOut_46 (by decide) (fun c => absurd c (by decide)) (fun _ => ?_)
      obtain rfl := z_inj1 hf
      exact z_vret X hr hlk hP hD hS dX4_letOut_49
  · have hf := ite_t hf c7
    refine lv_aload_n X.1 X.2.1 dX4_letOut_28 rfl (lv_at hl 2 rfl) ?_
    refine z_get X hK hP hiX4 9 rfl rfl 5 (by decide) (bw_in W4_1) rfl dX4_letOut_29 ?_
    refine lv_iload_n X.1 X.2.1 dX4_letOut_32 rfl (lv_at hl 1 rfl) ?_
    obtain ⟨hi56, hf⟩ := chk_e hf
    obtain ⟨v55, ev55, hf⟩ := stp_e hf
    refine z_iald X hK hP 14 rfl hi56 ev55 dX4_letOut_33 ?_
    refine lv_goto (tgt := 38) X.1 X.2.1 dX4_letOut_34 (by decide) ?_
    refine lv_istore (lv' := [(4, .int v55), (3, .int w6), (2, .int w1), (0, .ref (aR 0)), (1, .int x1)]) X.1 X.2.1 dX4_letOut_38 hl (by decide) rfl (fun ls hl => ?_)
    refine lv_iload_n X.1 X.2.1 dX4_letOut_40 rfl (lv_at hl 1 rfl) ?_
    refine lv_if_ne (tgt := 50) X.1 X.2.1 dX4_letOut_41 (by decide) (fun c57 => ?_) (fun c57 => ?_)
    · have hf := ite_f hf c57
      refine lv_iconst (v := 0) X.1 X.2.1 dX4_letOut_50 (by decide) ?_
      refine lv_istore (lv' := [(5, .int 0), (4, .int v55), (3, .int w6), (2, .int w1), (0, .ref (aR 0)), (1, .int x1)]) X.1 X.2.1 dX4_letOut_51 hl (by decide) rfl (fun ls hl => ?_)
      exact L53_0  _ _ _ _ _ _ hf _ _ hP hD hS _ (lv_sub hl [4, 3, 2, 1, 0] rfl)
    · have hf := ite_t hf c57
      refine lv_iload X.1 X.2.1 dX4_letOut_44 (lv_at hl 0 rfl) ?_
      refine lv_if_ne (tgt := 50) X.1 X.2.1 dX4_letOut_46 (by decide) (fun c58 => ?_) (fun c58 => ?_)
      · have hf := ite_f hf c58
        refine lv_iconst (v := 0) X.1 X.2.1 dX4_letOut_50 (by decide) ?_
        refine lv_istore (lv' := [(5, .int 0), (4, .int v55), (3, .int w6), (2, .int w1), (0, .ref (aR 0)), (1, .int x1)]) X.1 X.2.1 dX4_letOut_51 hl (by decide) rfl (fun ls hl => ?_)
        exact L53_0  _ _ _ _ _ _ hf _ _ hP hD hS _ (lv_sub hl [4, 3, 2, 1, 0] rfl)
      · have hf := ite_t hf c58
        obtain rfl := z_inj1 hf
        exact z_vret X hr hlk hP hD hS dX4_letOut_49
abbrev rmX4_letIn : Room := { frames := 1, cells := 0, slots := 0, locals := 21 }
set_option maxHeartbeats 4000000 in
set_option maxRecDepth 100000 in
theorem kX4_letIn (l : Launch) (D : va_G) (K : Nat → ClassId) (aH : Nat → Nat) (aR : Nat → Nat) (h0 : St) (r0 : St) (sz : Nat) (x1 : Int32) (r_ : St) (hf : fX4_letIn h0 r0 x1 = some r_) : Met l yX4_letIn (bw (Cond.code yX4_letIn cX4_letIn 5 none)) rmX4_letIn (va_Pc [.ref (aR 0), .int x1] (zB D K sz (wbX2 K aH h0 ++ (wbX4 K (aH 0) aR r0)))) (zQ (none) D (va_A (wbX2 K aH h0 ++ (wbX4 K (aH 0) aR r0)) sz) (wbX2 K aH h0 ++ (wbX4 K (aH 0) aR r_))) 0 0 (va_A (wbX2 K aH h0 ++ (wbX4 K (aH 0) aR r0)) sz) := by
  refine z_of (cc := cX4_letIn) (maxL := 5) (ret := none) (own := RX4) (lv := [(0, .ref (aR 0)), (1, .int x1)]) (by decide) rfl rfl (Nat.le_of_ble_eq_true rfl) rfl ?_
  intro p e s m below meth c X hr hlk hK hN hsz hP hD hA hS hin ls hl
  generalize va_A (wbX2 K aH h0 ++ (wbX4 K (aH 0) aR r0)) sz = A at hD hA hS hN ⊢
  have hiX2 : ∀ w ∈ u_ws RX2 TX2 14, w ∈ (bw (Cond.code yX4_letIn cX4_letIn 5 none)) := fun w h => bw_in (inlX2 w h)
  have hiX4 : ∀ w ∈ u_ws RX4 TX4 12, w ∈ (bw (Cond.code yX4_letIn cX4_letIn 5 none)) := fun w h => bw_in (inlX4 w h)
  have L41_0 : ∀ (n : Nat), ∀ (n41_0 : Int32) (n41_1 : Int32) (n41_2 : Int32) (q41_R : St), fX4_letIn_41 h0 n n41_0 n41_1 n41_2 q41_R = some r_ → ∀ (H : Heap) (locs : List Loc), va_P D vwCl (wbX2 K aH h0 ++ (wbX4 K (aH 0) aR q41_R)) H → va_D A (wbX2 K aH h0 ++ (wbX4 K (aH 0) aR q41_R)) → va_S A s.heap H locs → ∀ (ls : Array Slot), lv_has ls 5 [(0, .ref (aR 0)), (2, .int n41_0), (3, .int n41_1), (4, .int n41_2)] → W p l e rmX4_letIn s m ([.ref (aR 0), .int x1] : List Value).toArray below meth c H locs 0 0 (MQ below (zQ (none) D A (wbX2 K aH h0 ++ (wbX4 K (aH 0) aR r_))) ([.ref (aR 0), .int x1] : List Value).toArray s 0 0 A) (F0 m 41 ls []) := by
    intro n
    induction n with
    | zero =>
      intro n41_0 n41_1 n41_2 q41_R hf
      rw [fX4_letIn_41] at hf
      cases hf
    | succ n ih =>
      intro n41_0 n41_1 n41_2 q41_R hf H locs hP hD hS ls hl
      rw [fX4_letIn_41] at hf
      refine lv_iload X.1 X.2.1 dX4_letIn_41 (lv_at hl 3 rfl) ?_
      refine lv_aload_n X.1 X.2.1 dX4_letIn_43 rfl (lv_at hl 0 rfl) ?_
      refine z_get X hK hP hiX4 9 rfl rfl 0 (by decide) (bw_in W4_8) rfl dX4_letIn_44 ?_
      refine z_get X hK hP hiX2 0 rfl rfl 2 (by decide) (bw_in W13_20) rfl dX4_letIn_47 ?_
      refine lv_icmp_ge (tgt := 146) X.1 X.2.1 dX4_letIn_50 (by decide) (fun c10 => ?_) (fun c10 => ?_)
      · have hf := ite_t hf c10
        obtain rfl := z_inj1 hf
        exact z_vret X hr hlk hP hD hS dX4_letIn_146
      · have hf := ite_f hf c10
        refine lv_iload_n X.1 X.2.1 dX4_letIn_53 rfl (lv_at hl 2 rfl) ?_
        refine lv_iload X.1 X.2.1 dX4_letIn_54 (lv_at hl 3 rfl) ?_
        obtain ⟨r11, hc12, hf⟩ := bd1_e hf
        refine z_SN (n := 2) (As := [.int n41_1, .int n41_2]) (rest := []) (host := "LeaversFloor") X hK hN (kX8_has l D K _ n41_1 n41_2 r11 hc12) (bw_G W13_15) (by decide) (bw_in W1_2) (bw_in W13_14) rfl ⟨rfl, rfl⟩ (by decide +kernel) rfl ⟨Nat.le_of_ble_eq_true rfl, Nat.le_of_ble_eq_true rfl⟩ (fun _ _ h => by simp at h) ⟨fun _ _ _ _ h => by simp at h, fun _ _ h => by simp at h⟩ (zj_none hP hD hS hA) hS hl.1 rfl (Nat.le_of_ble_eq_true rfl) dX4_letIn_56 ⟨Nat.zero_le _, Nat.zero_le _⟩ rfl (fun H locs hP hD hS => ?_)
        refine lv_if_ne (tgt := 65) X.1 X.2.1 dX4_letIn_59 (by decide) (fun c13 => ?_) (fun c13 => ?_)
        · have hf := ite_f hf c13
          refine lv_aload_n X.1 X.2.1 dX4_letIn_65 rfl (lv_at hl 0 rfl) ?_
          refine z_get X hK hP hiX4 9 rfl rfl 3 (by decide) (bw_in W3_23) rfl dX4_letIn_66 ?_
          refine lv_iload_n X.1 X.2.1 dX4_letIn_69 rfl (lv_at hl 1 rfl) ?_
          obtain ⟨hi15, hf⟩ := chk_e hf
          obtain ⟨v14, ev14, hf⟩ := stp_e hf
          refine z_iald X hK hP 12 rfl hi15 ev14 dX4_letIn_70 ?_
          refine lv_aload_n X.1 X.2.1 dX4_letIn_71 rfl (lv_at hl 0 rfl) ?_
          refine z_get X hK hP hiX4 9 rfl rfl 0 (by decide) (bw_in W4_8) rfl dX4_letIn_72 ?_
          refine z_get X hK hP hiX2 0 rfl rfl 6 (by decide) (bw_in W13_21) rfl dX4_letIn_75 ?_
          refine lv_iload X.1 X.2.1 dX4_letIn_78 (lv_at hl 3 rfl) ?_
          obtain ⟨hi17, hf⟩ := chk_e hf
          obtain ⟨v16, ev16, hf⟩ := stp_e hf
          refine z_iald X hK hP 1 rfl hi17 ev16 dX4_letIn_80 ?_
          refine lv_iadd X.1 X.2.1 dX4_letIn_81 ?_
          refine lv_aload_n X.1 X.2.1 dX4_letIn_82 rfl (lv_at hl 0 rfl) ?_
          refine z_get X hK hP hiX4 9 rfl rfl 0 (by decide) (bw_in W4_8) rfl dX4_letIn_83 ?_
          refine z_get X hK hP hiX2 0 rfl rfl 1 (by decide) (bw_in W15_5) rfl dX4_letIn_86 ?_
          refine lv_icmp_gt (tgt := 127) X.1 X.2.1 dX4_letIn_89 (by decide) (fun c18 => ?_) (fun c18 => ?_)
          · have hf := ite_t hf c18
            refine lv_aload_n X.1 X.2.1 dX4_letIn_127 rfl (lv_at hl 0 rfl) ?_
            refine z_get X hK hP hiX4 9 rfl rfl 8 (by decide) (bw_in W4_4) rfl dX4_letIn_128 ?_
            refine lv_iload_n X.1 X.2.1 dX4_letIn_131 rfl (lv_at hl 1 rfl) ?_
            refine lv_dup2_11 X.1 X.2.1 dX4_letIn_132 rfl rfl ?_
            obtain ⟨hi20, hf⟩ := chk_e hf
            obtain ⟨v19, ev19, hf⟩ := stp_e hf
            refine z_iald X hK hP 17 rfl hi20 ev19 dX4_letIn_133 ?_
            refine lv_iconst (v := 1) X.1 X.2.1 dX4_letIn_134 (by decide) ?_
            refine lv_iload X.1 X.2.1 dX4_letIn_135 (lv_at hl 3 rfl) ?_
            refine lv_ishl X.1 X.2.1 dX4_letIn_137 ?_
            refine lv_ior X.1 X.2.1 dX4_letIn_138 ?_
            obtain ⟨hi21, hf⟩ := chk_e hf
            obtain ⟨r22, er22, hf⟩ := stp_e hf
            refine z_iast (ws' := wbX2 K aH h0 ++ (wbX4 K (aH 0) aR r22)) X hK hP hD hS 17 rfl hi21 dX4_letIn_139 (by rw [er22]; rfl) (fun H locs hP hD hS => ?_)
            obtain ⟨w23, ew23, hf⟩ := stp_e hf
            refine lv_iinc (v := w23) (lv' := [(4, .int w23), (0, .ref (aR 0)), (2, .int n41_0), (3, .int n41_1)]) X.1 X.2.1 dX4_letIn_140 hl (k := 3) rfl (by rw [ew23]; rfl) (by decide) rfl (fun ls hl => ?_)
            refine lv_goto (tgt := 41) X.1 X.2.1 dX4_letIn_143 (by decide) ?_
            exact ih _ _ _ _ hf _ _ hP hD hS _ (lv_sub hl [1, 2, 3, 0] rfl)
          · have hf := ite_f hf c18
            refine lv_aload_n X.1 X.2.1 dX4_letIn_92 rfl (lv_at hl 0 rfl) ?_
            refine z_get X hK hP hiX4 9 rfl rfl 4 (by decide) (bw_in W4_0) rfl dX4_letIn_93 ?_
            refine lv_iload_n X.1 X.2.1 dX4_letIn_96 rfl (lv_at hl 1 rfl) ?_
            refine lv_dup2_11 X.1 X.2.1 dX4_letIn_97 rfl rfl ?_
            obtain ⟨hi25, hf⟩ := chk_e hf
            obtain ⟨v24, ev24, hf⟩ := stp_e hf
            refine z_iald X hK hP 13 rfl hi25 ev24 dX4_letIn_98 ?_
            refine lv_iconst (v := 1) X.1 X.2.1 dX4_letIn_99 (by decide) ?_
            refine lv_iload X.1 X.2.1 dX4_letIn_100 (lv_at hl 3 rfl) ?_
            refine lv_ishl X.1 X.2.1 dX4_letIn_102 ?_
            refine lv_ior X.1 X.2.1 dX4_letIn_103 ?_
            obtain ⟨hi26, hf⟩ := chk_e hf
            obtain ⟨r27, er27, hf⟩ := stp_e hf
            refine z_iast (ws' := wbX2 K aH h0 ++ (wbX4 K (aH 0) aR r27)) X hK hP hD hS 13 rfl hi26 dX4_letIn_104 (by rw [er27]; rfl) (fun H locs hP hD hS => ?_)
            refine lv_aload_n X.1 X.2.1 dX4_letIn_105 rfl (lv_at hl 0 rfl) ?_
            refine z_get X hK hP hiX4 9 rfl rfl 3 (by decide) (bw_in W3_23) rfl dX4_letIn_106 ?_
            refine lv_iload_n X.1 X.2.1 dX4_letIn_109 rfl (lv_at hl 1 rfl) ?_
            refine lv_dup2_11 X.1 X.2.1 dX4_letIn_110 rfl rfl ?_
            obtain ⟨hi29, hf⟩ := chk_e hf
            obtain ⟨v28, ev28, hf⟩ := stp_e hf
            refine z_iald X hK hP 12 rfl hi29 ev28 dX4_letIn_111 ?_
            refine lv_aload_n X.1 X.2.1 dX4_letIn_112 rfl (lv_at hl 0 rfl) ?_
            refine z_get X hK hP hiX4 9 rfl rfl 0 (by decide) (bw_in W4_8) rfl dX4_letIn_113 ?_
            refine z_get X hK hP hiX2 0 rfl rfl 6 (by decide) (bw_in W13_21) rfl dX4_letIn_116 ?_
            refine lv_iload X.1 X.2.1 dX4_letIn_119 (lv_at hl 3 rfl) ?_
            obtain ⟨hi31, hf⟩ := chk_e hf
            obtain ⟨v30, ev30, hf⟩ := stp_e hf
            refine z_iald X hK hP 1 rfl hi31 ev30 dX4_letIn_121 ?_
            refine lv_iadd X.1 X.2.1 dX4_letIn_122 ?_
            obtain ⟨hi32, hf⟩ := chk_e hf
            obtain ⟨r33, er33, hf⟩ := stp_e hf
            refine z_iast (ws' := wbX2 K aH h0 ++ (wbX4 K (aH 0) aR r33)) X hK hP hD hS 12 rfl hi32 dX4_letIn_123 (by rw [er33]; rfl) (fun H locs hP hD hS => ?_)
            refine lv_goto (tgt := 140) X.1 X.2.1 dX4_letIn_124 (by decide) ?_
            obtain ⟨w34, ew34, hf⟩ := stp_e hf
            refine lv_iinc (v := w34) (lv' := [(4, .int w34), (0, .ref (aR 0)), (2, .int n41_0), (3, .int n41_1)]) X.1 X.2.1 dX4_letIn_140 hl (k := 3) rfl (by rw [ew34]; rfl) (by decide) rfl (fun ls hl => ?_)
            refine lv_goto (tgt := 41) X.1 X.2.1 dX4_letIn_143 (by decide) ?_
            exact ih _ _ _ _ hf _ _ hP hD hS _ (lv_sub hl [1, 2, 3, 0] rfl)
        · have hf := ite_t hf c13
          refine lv_goto (tgt := 140) X.1 X.2.1 dX4_letIn_62 (by decide) ?_
          obtain ⟨w35, ew35, hf⟩ := stp_e hf
          refine lv_iinc (v := w35) (lv' := [(4, .int w35), (0, .ref (aR 0)), (2, .int n41_0), (3, .int n41_1)]) X.1 X.2.1 dX4_letIn_140 hl (k := 3) rfl (by rw [ew35]; rfl) (by decide) rfl (fun ls hl => ?_)
          refine lv_goto (tgt := 41) X.1 X.2.1 dX4_letIn_143 (by decide) ?_
          exact ih _ _ _ _ hf _ _ hP hD hS _ (lv_sub hl [1, 2, 3, 0] rfl)
  rw [fX4_letIn] at hf
  refine lv_aload_n X.1 X.2.1 dX4_letIn_0 rfl (lv_at hl 0 rfl) ?_
  refine z_get X hK hP hiX4 9 rfl rfl 9 (by decide) (bw_in W4_5) rfl dX4_letIn_1 ?_
  refine lv_iconst (v := 1) X.1 X.2.1 dX4_letIn_4 (by decide) ?_
  refine lv_isub X.1 X.2.1 dX4_letIn_5 ?_
  obtain ⟨w1, ew1, hf⟩ := stp_e hf
  refine z_top ew1 ?_
  refine lv_istore_n (lv' := [(2, .int w1), (0, .ref (aR 0)), (1, .int x1)]) X.1 X.2.1 dX4_letIn_6 rfl hl (by decide) rfl (fun ls hl => ?_)
  refine lv_aload_n X.1 X.2.1 dX4_letIn_7 rfl (lv_at hl 1 rfl) ?_
  refine z_get X hK hP hiX4 9 rfl rfl 0 (by decide) (bw_in W4_8) rfl dX4_letIn_8 ?_
  refine z_get X hK hP hiX2 0 rfl rfl 12 (by decide) (bw_in W15_15) rfl dX4_letIn_11 ?_
  refine lv_iload_n X.1 X.2.1 dX4_letIn_14 rfl (lv_at hl 2 rfl) ?_
  obtain ⟨hi3, hf⟩ := chk_e hf
  obtain ⟨v2, ev2, hf⟩ := stp_e hf
  refine z_iald X hK hP 7 rfl hi3 ev2 dX4_letIn_15 ?_
  refine lv_aload_n X.1 X.2.1 dX4_letIn_16 rfl (lv_at hl 1 rfl) ?_
  refine z_get X hK hP hiX4 9 rfl rfl 4 (by decide) (bw_in W4_0) rfl dX4_letIn_17 ?_
  refine lv_iload_n X.1 X.2.1 dX4_letIn_20 rfl (lv_at hl 0 rfl) ?_
  obtain ⟨hi5, hf⟩ := chk_e hf
  obtain ⟨v4, ev4, hf⟩ := stp_e hf
  refine z_iald X hK hP 13 rfl hi5 ev4 dX4_letIn_21 ?_
  refine lv_aload_n X.1 X.2.1 dX4_letIn_22 rfl (lv_at hl 1 rfl) ?_
  refine z_get X hK hP hiX4 9 rfl rfl 7 (by decide) (bw_in W4_3) rfl dX4_letIn_23 ?_
  refine lv_iload_n X.1 X.2.1 dX4_letIn_26 rfl (lv_at hl 0 rfl) ?_
  obtain ⟨hi7, hf⟩ := chk_e hf
  obtain ⟨v6, ev6, hf⟩ := stp_e hf
  refine z_iald X hK hP 16 rfl hi7 ev6 dX4_letIn_27 ?_
  refine lv_ior X.1 X.2.1 dX4_letIn_28 ?_
  refine lv_iconst (v := -1) X.1 X.2.1 dX4_letIn_29 (by decide) ?_
  refine lv_ixor X.1 X.2.1 dX4_letIn_30 ?_
  refine lv_iand X.1 X.2.1 dX4_letIn_31 ?_
  obtain ⟨w8, ew8, hf⟩ := stp_e hf
  refine z_top ew8 ?_
  refine lv_istore_n (lv' := [(3, .int w8), (2, .int w1), (0, .ref (aR 0)), (1, .int x1)]) X.1 X.2.1 dX4_letIn_32 rfl hl (by decide) rfl (fun ls hl => ?_)
  refine lv_iload_n X.1 X.2.1 dX4_letIn_33 rfl (lv_at hl 0 rfl) ?_
  refine lv_if_ne (tgt := 38) X.1 X.2.1 dX4_letIn_34 (by decide) (fun c9 => ?_) (fun c9 => ?_)
  · have hf := ite_f hf c9
    refine lv_iconst (v := 0) X.1 X.2.1 dX4_letIn_38 (by decide) ?_
    refine lv_istore (lv' := [(4, .int 0), (3, .int w8), (2, .int w1), (0, .ref (aR 0)), (1, .int x1)]) X.1 X.2.1 dX4_letIn_39 hl (by decide) rfl (fun ls hl => ?_)
    exact L41_0  _ _ _ _ _ hf _ _ hP hD hS _ (lv_sub hl [3, 2, 1, 0] rfl)
  · have hf := ite_t hf c9
    obtain rfl := z_inj1 hf
    exact z_vret X hr hlk hP hD hS dX4_letIn_37
abbrev rmX4_goTo : Room := { frames := 2, cells := 0, slots := 0, locals := 51 }
set_option maxHeartbeats 4000000 in
set_option maxRecDepth 100000 in
theorem kX4_goTo (l : Launch) (D : va_G) (K : Nat → ClassId) (aH : Nat → Nat) (aR : Nat → Nat) (h0 : St) (r0 : St) (sz : Nat) (x1 : Int32) (r_ : St) (hf : fX4_goTo h0 r0 x1 = some r_) : Met l yX4_goTo (bw (Cond.code yX4_goTo cX4_goTo 5 none)) rmX4_goTo (va_Pc [.ref (aR 0), .int x1] (zB D K sz (wbX2 K aH h0 ++ (wbX4 K (aH 0) aR r0)))) (zQ (none) D (va_A (wbX2 K aH h0 ++ (wbX4 K (aH 0) aR r0)) sz) (wbX2 K aH h0 ++ (wbX4 K (aH 0) aR r_))) 0 0 (va_A (wbX2 K aH h0 ++ (wbX4 K (aH 0) aR r0)) sz) := by
  refine z_of (cc := cX4_goTo) (maxL := 5) (ret := none) (own := RX4) (lv := [(0, .ref (aR 0)), (1, .int x1)]) (by decide) rfl rfl (Nat.le_of_ble_eq_true rfl) rfl ?_
  intro p e s m below meth c X hr hlk hK hN hsz hP hD hA hS hin ls hl
  generalize va_A (wbX2 K aH h0 ++ (wbX4 K (aH 0) aR r0)) sz = A at hD hA hS hN ⊢
  have hiX4 : ∀ w ∈ u_ws RX4 TX4 12, w ∈ (bw (Cond.code yX4_goTo cX4_goTo 5 none)) := fun w h => bw_in (inlX4 w h)
  rw [fX4_goTo] at hf
  refine lv_iload_n X.1 X.2.1 dX4_goTo_0 rfl (lv_at hl 1 rfl) ?_
  refine lv_if_lt (tgt := 21) X.1 X.2.1 dX4_goTo_1 (by decide) (fun c1 => ?_) (fun c1 => ?_)
  · have hf := ite_t hf c1
    obtain rfl := z_inj1 hf
    exact z_vret X hr hlk hP hD hS dX4_goTo_21
  · have hf := ite_f hf c1
    refine lv_iload_n X.1 X.2.1 dX4_goTo_4 rfl (lv_at hl 1 rfl) ?_
    refine lv_bipush (v := 10) X.1 X.2.1 dX4_goTo_5 (by decide) ?_
    refine lv_icmp_ge (tgt := 21) X.1 X.2.1 dX4_goTo_7 (by decide) (fun c2 => ?_) (fun c2 => ?_)
    · have hf := ite_t hf c2
      obtain rfl := z_inj1 hf
      exact z_vret X hr hlk hP hD hS dX4_goTo_21
    · have hf := ite_f hf c2
      refine lv_aload_n X.1 X.2.1 dX4_goTo_10 rfl (lv_at hl 0 rfl) ?_
      refine z_get X hK hP hiX4 9 rfl rfl 9 (by decide) (bw_in W4_5) rfl dX4_goTo_11 ?_
      refine lv_iconst (v := 2) X.1 X.2.1 dX4_goTo_14 (by decide) ?_
      refine lv_iadd X.1 X.2.1 dX4_goTo_15 ?_
      refine lv_bipush (v := 45) X.1 X.2.1 dX4_goTo_16 (by decide) ?_
      refine lv_icmp_le (tgt := 22) X.1 X.2.1 dX4_goTo_18 (by decide) (fun c3 => ?_) (fun c3 => ?_)
      · have hf := ite_t hf c3
        refine lv_aload_n X.1 X.2.1 dX4_goTo_22 rfl (lv_at hl 0 rfl) ?_
        refine z_get X hK hP hiX4 9 rfl rfl 9 (by decide) (bw_in W4_5) rfl dX4_goTo_23 ?_
        refine lv_iconst (v := 1) X.1 X.2.1 dX4_goTo_26 (by decide) ?_
        refine lv_isub X.1 X.2.1 dX4_goTo_27 ?_
        obtain ⟨w4, ew4, hf⟩ := stp_e hf
        refine z_top ew4 ?_
        refine lv_istore_n (lv' := [(2, .int w4), (0, .ref (aR 0)), (1, .int x1)]) X.1 X.2.1 dX4_goTo_28 rfl hl (by decide) rfl (fun ls hl => ?_)
        refine lv_aload_n X.1 X.2.1 dX4_goTo_29 rfl (lv_at hl 1 rfl) ?_
        refine z_get X hK hP hiX4 9 rfl rfl 2 (by decide) (bw_in W3_22) rfl dX4_goTo_30 ?_
        refine lv_iload_n X.1 X.2.1 dX4_goTo_33 rfl (lv_at hl 0 rfl) ?_
        obtain ⟨hi6, hf⟩ := chk_e hf
        obtain ⟨v5, ev5, hf⟩ := stp_e hf
        refine z_iald X hK hP 11 rfl hi6 ev5 dX4_goTo_34 ?_
        refine lv_iconst (v := 2) X.1 X.2.1 dX4_goTo_35 (by decide) ?_
        refine lv_idiv X.1 X.2.1 dX4_goTo_36 (by decide) ?_
        obtain ⟨w7, ew7, hf⟩ := stp_e hf
        refine z_top ew7 ?_
        refine lv_istore_n (lv' := [(3, .int w7), (2, .int w4), (0, .ref (aR 0)), (1, .int x1)]) X.1 X.2.1 dX4_goTo_37 rfl hl (by decide) rfl (fun ls hl => ?_)
        refine lv_aload_n X.1 X.2.1 dX4_goTo_38 rfl (lv_at hl 2 rfl) ?_
        refine z_get X hK hP hiX4 9 rfl rfl 1 (by decide) (bw_in W3_21) rfl dX4_goTo_39 ?_
        refine lv_iload_n X.1 X.2.1 dX4_goTo_42 rfl (lv_at hl 1 rfl) ?_
        obtain ⟨hi9, hf⟩ := chk_e hf
        obtain ⟨v8, ev8, hf⟩ := stp_e hf
        refine z_iald X hK hP 10 rfl hi9 ev8 dX4_goTo_43 ?_
        refine lv_iload_n X.1 X.2.1 dX4_goTo_44 rfl (lv_at hl 3 rfl) ?_
        refine lv_iload_n X.1 X.2.1 dX4_goTo_45 rfl (lv_at hl 0 rfl) ?_
        refine lv_isub X.1 X.2.1 dX4_goTo_46 ?_
        refine va_mabs X.1 X.2.1 (X.2.2.1.trans hl.1.symm) X.2.2.2.1 (X.2.2.2.2 _ (bw_in W14_8)) (X.2.2.2.2 _ (bw_in W14_9)) (X.2.2.2.2 _ (bw_in W12_0)) (X.2.2.2.2 _ (bw_in W14_10)) (Nat.le_of_ble_eq_true rfl) (Nat.le_of_ble_eq_true rfl) (Nat.zero_le _) (Nat.zero_le _) dX4_goTo_47 ?_
        refine lv_iadd X.1 X.2.1 dX4_goTo_50 ?_
        obtain ⟨w10, ew10, hf⟩ := stp_e hf
        refine z_top ew10 ?_
        refine lv_istore (lv' := [(4, .int w10), (3, .int w7), (2, .int w4), (0, .ref (aR 0)), (1, .int x1)]) X.1 X.2.1 dX4_goTo_51 hl (by decide) rfl (fun ls hl => ?_)
        refine lv_aload_n X.1 X.2.1 dX4_goTo_53 rfl (lv_at hl 3 rfl) ?_
        refine lv_iload X.1 X.2.1 dX4_goTo_54 (lv_at hl 0 rfl) ?_
        refine lv_aload_n X.1 X.2.1 dX4_goTo_56 rfl (lv_at hl 3 rfl) ?_
        refine lv_iload_n X.1 X.2.1 dX4_goTo_57 rfl (lv_at hl 1 rfl) ?_
        refine lv_iload_n X.1 X.2.1 dX4_goTo_58 rfl (lv_at hl 4 rfl) ?_
        obtain ⟨r11, r12, hc13, hf⟩ := bd2_e hf
        refine z_V (n := 2) (As := [.int w7, .int x1]) (rest := [.int w10, .ref (aR 0)]) (ci := 4) (q0 := 9) X hK hN (kX4_passHalf l D K aH aR h0 r0 _ w7 x1 r11 r12 hc13) (bw_V W14_11 W14_12 W14_13 W1_22 W14_14) rfl ⟨rfl, rfl⟩ (by decide +kernel) rfl ⟨Nat.le_of_ble_eq_true rfl, Nat.le_of_ble_eq_true rfl⟩ hP hD rfl rfl (zj_same hD hS hA) hS hl.1 rfl (Nat.le_of_ble_eq_true rfl) dX4_goTo_59 ⟨Nat.zero_le _, Nat.zero_le _⟩ rfl (fun H locs hP hD hS => ?_)
        refine lv_iadd X.1 X.2.1 dX4_goTo_62 ?_
        refine lv_iconst (v := 1) X.1 X.2.1 dX4_goTo_63 (by decide) ?_
        refine lv_iadd X.1 X.2.1 dX4_goTo_64 ?_
        refine lv_iconst (v := 2) X.1 X.2.1 dX4_goTo_65 (by decide) ?_
        refine lv_iload_n X.1 X.2.1 dX4_goTo_66 rfl (lv_at hl 4 rfl) ?_
        refine lv_imul X.1 X.2.1 dX4_goTo_67 ?_
        obtain ⟨r14, hc15, hf⟩ := bd1_e hf
        refine z_V (n := 2) (As := [.int ((w10 + r11) + 1), .int ((2 : Int32) * x1)]) (rest := []) (ci := 4) (q0 := 9) X hK hN (kX4_addRow l D K aH aR h0 r12 _ ((w10 + r11) + 1) ((2 : Int32) * x1) r14 hc15) (bw_V W14_21 W14_22 W14_23 W1_22 W15_0) rfl ⟨rfl, rfl⟩ (by decide +kernel) rfl ⟨Nat.le_of_ble_eq_true rfl, Nat.le_of_ble_eq_true rfl⟩ hP hD rfl rfl (zj_same hD hS hA) hS hl.1 rfl (Nat.le_of_ble_eq_true rfl) dX4_goTo_68 ⟨Nat.zero_le _, Nat.zero_le _⟩ rfl (fun H locs hP hD hS => ?_)
        refine lv_aload_n X.1 X.2.1 dX4_goTo_71 rfl (lv_at hl 3 rfl) ?_
        refine lv_iload_n X.1 X.2.1 dX4_goTo_72 rfl (lv_at hl 4 rfl) ?_
        obtain ⟨r16, hc17, hf⟩ := bd1_e hf
        refine z_V (n := 1) (As := [.int x1]) (rest := []) (ci := 4) (q0 := 9) X hK hN (kX4_letOut l D K aH aR h0 r14 _ x1 r16 hc17) (bw_V W15_6 W15_7 W15_8 W1_22 W15_9) rfl ⟨rfl, rfl⟩ (by decide +kernel) rfl ⟨Nat.le_of_ble_eq_true rfl, Nat.le_of_ble_eq_true rfl⟩ hP hD rfl rfl (zj_same hD hS hA) hS hl.1 rfl (Nat.le_of_ble_eq_true rfl) dX4_goTo_73 ⟨Nat.zero_le _, Nat.zero_le _⟩ rfl (fun H locs hP hD hS => ?_)
        refine lv_aload_n X.1 X.2.1 dX4_goTo_76 rfl (lv_at hl 3 rfl) ?_
        refine lv_iload_n X.1 X.2.1 dX4_goTo_77 rfl (lv_at hl 4 rfl) ?_
        obtain ⟨r18, hc19, hf⟩ := bd1_e hf
        refine z_V (n := 1) (As := [.int x1]) (rest := []) (ci := 4) (q0 := 9) X hK hN (kX4_letIn l D K aH aR h0 r16 _ x1 r18 hc19) (bw_V W15_11 W15_12 W15_13 W1_22 W15_14) rfl ⟨rfl, rfl⟩ (by decide +kernel) rfl ⟨Nat.le_of_ble_eq_true rfl, Nat.le_of_ble_eq_true rfl⟩ hP hD rfl rfl (zj_same hD hS hA) hS hl.1 rfl (Nat.le_of_ble_eq_true rfl) dX4_goTo_78 ⟨Nat.zero_le _, Nat.zero_le _⟩ rfl (fun H locs hP hD hS => ?_)
        obtain rfl := z_inj1 hf
        exact z_vret X hr hlk hP hD hS dX4_goTo_81
      · have hf := ite_f hf c3
        obtain rfl := z_inj1 hf
        exact z_vret X hr hlk hP hD hS dX4_goTo_21
abbrev rmX4_goToStops : Room := { frames := 3, cells := 0, slots := 0, locals := 75 }
set_option maxHeartbeats 4000000 in
set_option maxRecDepth 100000 in
theorem kX4_goToStops (l : Launch) (D : va_G) (K : Nat → ClassId) (aH : Nat → Nat) (aR : Nat → Nat) (h0 : St) (r0 : St) (sz : Nat) (x1 : Int32) (x2 : Int32) (r_ : St) (hf : fX4_goToStops h0 r0 x1 x2 = some r_) : Met l yX4_goToStops (bw (Cond.code yX4_goToStops cX4_goToStops 4 none)) rmX4_goToStops (va_Pc [.ref (aR 0), .int x1, .int x2] (zB D K sz (wbX2 K aH h0 ++ (wbX4 K (aH 0) aR r0)))) (zQ (none) D (va_A (wbX2 K aH h0 ++ (wbX4 K (aH 0) aR r0)) sz) (wbX2 K aH h0 ++ (wbX4 K (aH 0) aR r_))) 0 0 (va_A (wbX2 K aH h0 ++ (wbX4 K (aH 0) aR r0)) sz) := by
  refine z_of (cc := cX4_goToStops) (maxL := 4) (ret := none) (own := RX4) (lv := [(0, .ref (aR 0)), (1, .int x1), (2, .int x2)]) (by decide) rfl rfl (Nat.le_of_ble_eq_true rfl) rfl ?_
  intro p e s m below meth c X hr hlk hK hN hsz hP hD hA hS hin ls hl
  generalize va_A (wbX2 K aH h0 ++ (wbX4 K (aH 0) aR r0)) sz = A at hD hA hS hN ⊢
  have hiX2 : ∀ w ∈ u_ws RX2 TX2 14, w ∈ (bw (Cond.code yX4_goToStops cX4_goToStops 4 none)) := fun w h => bw_in (inlX2 w h)
  have hiX4 : ∀ w ∈ u_ws RX4 TX4 12, w ∈ (bw (Cond.code yX4_goToStops cX4_goToStops 4 none)) := fun w h => bw_in (inlX4 w h)
  have L2_0 : ∀ (n : Nat), ∀ (n2_0 : Int32) (n2_1 : Int32) (n2_2 : Int32) (q2_R : St), fX4_goToStops_2 h0 n n2_0 n2_1 n2_2 q2_R = some r_ → ∀ (H : Heap) (locs : List Loc), va_P D vwCl (wbX2 K aH h0 ++ (wbX4 K (aH 0) aR q2_R)) H → va_D A (wbX2 K aH h0 ++ (wbX4 K (aH 0) aR q2_R)) → va_S A s.heap H locs → ∀ (ls : Array Slot), lv_has ls 4 [(0, .ref (aR 0)), (1, .int n2_0), (2, .int n2_1), (3, .int n2_2)] → W p l e rmX4_goToStops s m ([.ref (aR 0), .int x1, .int x2] : List Value).toArray below meth c H locs 0 0 (MQ below (zQ (none) D A (wbX2 K aH h0 ++ (wbX4 K (aH 0) aR r_))) ([.ref (aR 0), .int x1, .int x2] : List Value).toArray s 0 0 A) (F0 m 2 ls []) := by
    intro n
    induction n with
    | zero =>
      intro n2_0 n2_1 n2_2 q2_R hf
      rw [fX4_goToStops_2] at hf
      cases hf
    | succ n ih =>
      intro n2_0 n2_1 n2_2 q2_R hf H locs hP hD hS ls hl
      rw [fX4_goToStops_2] at hf
      refine lv_iload_n X.1 X.2.1 dX4_goToStops_2 rfl (lv_at hl 3 rfl) ?_
      refine lv_aload_n X.1 X.2.1 dX4_goToStops_3 rfl (lv_at hl 0 rfl) ?_
      refine z_get X hK hP hiX4 9 rfl rfl 0 (by decide) (bw_in W4_8) rfl dX4_goToStops_4 ?_
      refine z_get X hK hP hiX2 0 rfl rfl 4 (by decide) (bw_in W14_2) rfl dX4_goToStops_7 ?_
      refine lv_icmp_ge (tgt := 42) X.1 X.2.1 dX4_goToStops_10 (by decide) (fun c1 => ?_) (fun c1 => ?_)
      · have hf := ite_t hf c1
        obtain rfl := z_inj1 hf
        exact z_vret X hr hlk hP hD hS dX4_goToStops_42
      · have hf := ite_f hf c1
        refine lv_iload_n X.1 X.2.1 dX4_goToStops_13 rfl (lv_at hl 3 rfl) ?_
        refine lv_iload_n X.1 X.2.1 dX4_goToStops_14 rfl (lv_at hl 1 rfl) ?_
        refine lv_icmp_eq (tgt := 36) X.1 X.2.1 dX4_goToStops_15 (by decide) (fun c2 => ?_) (fun c2 => ?_)
        · have hf := ite_t hf c2
          obtain ⟨w3, ew3, hf⟩ := stp_e hf
          refine lv_iinc (v := w3) (lv' := [(3, .int w3), (0, .ref (aR 0)), (1, .int n2_0), (2, .int n2_1)]) X.1 X.2.1 dX4_goToStops_36 hl (k := 3) rfl (by rw [ew3]; rfl) (by decide) rfl (fun ls hl => ?_)
          refine lv_goto (tgt := 2) X.1 X.2.1 dX4_goToStops_39 (by decide) ?_
          exact ih _ _ _ _ hf _ _ hP hD hS _ (lv_sub hl [1, 2, 3, 0] rfl)
        · have hf := ite_f hf c2
          refine lv_iload_n X.1 X.2.1 dX4_goToStops_18 rfl (lv_at hl 3 rfl) ?_
          refine lv_iload_n X.1 X.2.1 dX4_goToStops_19 rfl (lv_at hl 2 rfl) ?_
          refine lv_icmp_eq (tgt := 36) X.1 X.2.1 dX4_goToStops_20 (by decide) (fun c4 => ?_) (fun c4 => ?_)
          · have hf := ite_t hf c4
            obtain ⟨w5, ew5, hf⟩ := stp_e hf
            refine lv_iinc (v := w5) (lv' := [(3, .int w5), (0, .ref (aR 0)), (1, .int n2_0), (2, .int n2_1)]) X.1 X.2.1 dX4_goToStops_36 hl (k := 3) rfl (by rw [ew5]; rfl) (by decide) rfl (fun ls hl => ?_)
            refine lv_goto (tgt := 2) X.1 X.2.1 dX4_goToStops_39 (by decide) ?_
            exact ih _ _ _ _ hf _ _ hP hD hS _ (lv_sub hl [1, 2, 3, 0] rfl)
          · have hf := ite_f hf c4
            refine lv_aload_n X.1 X.2.1 dX4_goToStops_23 rfl (lv_at hl 0 rfl) ?_
            refine lv_aload_n X.1 X.2.1 dX4_goToStops_24 rfl (lv_at hl 0 rfl) ?_
            refine z_get X hK hP hiX4 9 rfl rfl 0 (by decide) (bw_in W4_8) rfl dX4_goToStops_25 ?_
            refine z_get X hK hP hiX2 0 rfl rfl 11 (by decide) (bw_in W14_3) rfl dX4_goToStops_28 ?_
            refine lv_iload_n X.1 X.2.1 dX4_goToStops_31 rfl (lv_at hl 3 rfl) ?_
            obtain ⟨hi7, hf⟩ := chk_e hf
            obtain ⟨v6, ev6, hf⟩ := stp_e hf
            refine z_iald X hK hP 6 rfl hi7 ev6 dX4_goToStops_32 ?_
            obtain ⟨r8, hc9, hf⟩ := bd1_e hf
            refine z_V (n := 1) (As := [.int v6]) (rest := []) (ci := 4) (q0 := 9) X hK hN (kX4_goTo l D K aH aR h0 q2_R _ v6 r8 hc9) (bw_V W14_4 W14_5 W14_6 W1_22 W14_7) rfl ⟨rfl, rfl⟩ (by decide +kernel) rfl ⟨Nat.le_of_ble_eq_true rfl, Nat.le_of_ble_eq_true rfl⟩ hP hD rfl rfl (zj_same hD hS hA) hS hl.1 rfl (Nat.le_of_ble_eq_true rfl) dX4_goToStops_33 ⟨Nat.zero_le _, Nat.zero_le _⟩ rfl (fun H locs hP hD hS => ?_)
            obtain ⟨w10, ew10, hf⟩ := stp_e hf
            refine lv_iinc (v := w10) (lv' := [(3, .int w10), (0, .ref (aR 0)), (1, .int n2_0), (2, .int n2_1)]) X.1 X.2.1 dX4_goToStops_36 hl (k := 3) rfl (by rw [ew10]; rfl) (by decide) rfl (fun ls hl => ?_)
            refine lv_goto (tgt := 2) X.1 X.2.1 dX4_goToStops_39 (by decide) ?_
            exact ih _ _ _ _ hf _ _ hP hD hS _ (lv_sub hl [1, 2, 3, 0] rfl)
  rw [fX4_goToStops] at hf
  refine lv_iconst (v := 0) X.1 X.2.1 dX4_goToStops_0 (by decide) ?_
  refine lv_istore_n (lv' := [(3, .int 0), (0, .ref (aR 0)), (1, .int x1), (2, .int x2)]) X.1 X.2.1 dX4_goToStops_1 rfl hl (by decide) rfl (fun ls hl => ?_)
  exact L2_0  _ _ _ _ _ hf _ _ hP hD hS _ (lv_sub hl [1, 2, 3, 0] rfl)
abbrev rmX8_byteOf : Room := { frames := 0, cells := 0, slots := 0, locals := 0 }
set_option maxHeartbeats 4000000 in
set_option maxRecDepth 100000 in
theorem kX8_byteOf (l : Launch) (D : va_G) (K : Nat → ClassId)   (sz : Nat) (x1 : Int64) (x2 : Int32) (q_ : Int32) (hf : fX8_byteOf x1 x2 = some q_) : Met l yX8_byteOf (bw (Cond.code yX8_byteOf cX8_byteOf 3 (some .int))) rmX8_byteOf (va_Pc [.long x1, .int x2] (zB D K sz (([] : va_W)))) (zQ (some (.int q_)) D (va_A (([] : va_W)) sz) (([] : va_W))) 0 0 (va_A (([] : va_W)) sz) := by
  refine z_of (cc := cX8_byteOf) (maxL := 3) (ret := (some .int)) (own := RX8) (lv := [(0, .long x1), (2, .int x2)]) (by decide) rfl rfl (Nat.le_of_ble_eq_true rfl) rfl ?_
  intro p e s m below meth c X hr hlk hK hN hsz hP hD hA hS hin ls hl
  generalize va_A (([] : va_W)) sz = A at hD hA hS hN ⊢
  rw [fX8_byteOf] at hf
  refine lv_lload_n X.1 X.2.1 dX8_byteOf_0 rfl (lv_at hl 0 rfl) ?_
  refine lv_bipush (v := 8) X.1 X.2.1 dX8_byteOf_1 (by decide) ?_
  refine lv_iload_n X.1 X.2.1 dX8_byteOf_3 rfl (lv_at hl 1 rfl) ?_
  refine lv_imul X.1 X.2.1 dX8_byteOf_4 ?_
  refine lv_lushr X.1 X.2.1 dX8_byteOf_5 rfl ?_
  refine lv_l2i X.1 X.2.1 dX8_byteOf_6 rfl ?_
  refine lv_sipush (v := 255) X.1 X.2.1 dX8_byteOf_7 (by decide) ?_
  refine lv_iand X.1 X.2.1 dX8_byteOf_10 ?_
  obtain rfl := z_inj1 hf
  exact z_iret X hr hlk hP hD hS dX8_byteOf_11
abbrev rmX4_share : Room := { frames := 1, cells := 0, slots := 0, locals := 22 }
set_option maxHeartbeats 4000000 in
set_option maxRecDepth 100000 in
theorem kX4_share (l : Launch) (D : va_G) (K : Nat → ClassId)   (sz : Nat) (x1 : Int64) (x2 : Int32) (x3 : Int32) (q_ : Int64) (hf : fX4_share x1 x2 x3 = some q_) : Met l yX4_share (bw (Cond.code yX4_share cX4_share 8 (some .long))) rmX4_share (va_Pc [.long x1, .int x2, .int x3] (zB D K sz (([] : va_W)))) (zQ (some (.long q_)) D (va_A (([] : va_W)) sz) (([] : va_W))) 0 0 (va_A (([] : va_W)) sz) := by
  refine z_of (cc := cX4_share) (maxL := 8) (ret := (some .long)) (own := RX4) (lv := [(0, .long x1), (2, .int x2), (3, .int x3)]) (by decide) rfl rfl (Nat.le_of_ble_eq_true rfl) rfl ?_
  intro p e s m below meth c X hr hlk hK hN hsz hP hD hA hS hin ls hl
  generalize va_A (([] : va_W)) sz = A at hD hA hS hN ⊢
  have L45_1 : ∀ (n : Nat), ∀ (n45_0 : Int32) (n45_1 : Int32) (n45_2 : Int64) (n45_3 : Int32) , fX4_share_45 n n45_0 n45_1 n45_2 n45_3 = some q_ → ∀ (H : Heap) (locs : List Loc), va_P D vwCl (([] : va_W)) H → va_D A (([] : va_W)) → va_S A s.heap H locs → ∀ (ls : Array Slot), lv_has ls 8 [(2, .int n45_0), (4, .int n45_1), (5, .long n45_2), (7, .int n45_3)] → W p l e rmX4_share s m ([.long x1, .int x2, .int x3] : List Value).toArray below meth c H locs 0 0 (MQ below (zQ (some (.long q_)) D A (([] : va_W))) ([.long x1, .int x2, .int x3] : List Value).toArray s 0 0 A) (F0 m 45 ls []) := by
    intro n
    induction n with
    | zero =>
      intro n45_0 n45_1 n45_2 n45_3  hf
      rw [fX4_share_45] at hf
      cases hf
    | succ n ih =>
      intro n45_0 n45_1 n45_2 n45_3  hf H locs hP hD hS ls hl
      rw [fX4_share_45] at hf
      refine lv_iload X.1 X.2.1 dX4_share_45 (lv_at hl 3 rfl) ?_
      refine lv_bipush (v := 8) X.1 X.2.1 dX4_share_47 (by decide) ?_
      refine lv_icmp_ge (tgt := 81) X.1 X.2.1 dX4_share_49 (by decide) (fun c2 => ?_) (fun c2 => ?_)
      · have hf := ite_t hf c2
        refine lv_lload X.1 X.2.1 dX4_share_81 (lv_at hl 2 rfl) ?_
        obtain rfl := z_inj1 hf
        exact z_lret X hr hlk hP hD hS dX4_share_83
      · have hf := ite_f hf c2
        refine lv_iload_n X.1 X.2.1 dX4_share_52 rfl (lv_at hl 0 rfl) ?_
        refine lv_iload X.1 X.2.1 dX4_share_53 (lv_at hl 3 rfl) ?_
        obtain ⟨r3, hc4, hf⟩ := bd1_e hf
        refine z_SN (n := 2) (As := [.int n45_0, .int n45_3]) (rest := []) (host := "LeaversFloor") X hK hN (kX8_has l D K _ n45_0 n45_3 r3 hc4) (bw_G W13_15) (by decide) (bw_in W1_2) (bw_in W13_14) rfl ⟨rfl, rfl⟩ (by decide +kernel) rfl ⟨Nat.le_of_ble_eq_true rfl, Nat.le_of_ble_eq_true rfl⟩ (fun _ _ h => by simp at h) ⟨fun _ _ _ _ h => by simp at h, fun _ _ h => by simp at h⟩ (zj_none hP hD hS hA) hS hl.1 rfl (Nat.le_of_ble_eq_true rfl) dX4_share_55 ⟨Nat.zero_le _, Nat.zero_le _⟩ rfl (fun H locs hP hD hS => ?_)
        refine lv_if_eq (tgt := 75) X.1 X.2.1 dX4_share_58 (by decide) (fun c5 => ?_) (fun c5 => ?_)
        · have hf := ite_t hf c5
          obtain ⟨w6, ew6, hf⟩ := stp_e hf
          refine lv_iinc (v := w6) (lv' := [(7, .int w6), (2, .int n45_0), (4, .int n45_1), (5, .long n45_2)]) X.1 X.2.1 dX4_share_75 hl (k := 3) rfl (by rw [ew6]; rfl) (by decide) rfl (fun ls hl => ?_)
          refine lv_goto (tgt := 45) X.1 X.2.1 dX4_share_78 (by decide) ?_
          exact ih _ _ _ _ hf _ _ hP hD hS _ (lv_sub hl [1, 2, 3, 0] rfl)
        · have hf := ite_f hf c5
          refine lv_lload X.1 X.2.1 dX4_share_61 (lv_at hl 2 rfl) ?_
          refine lv_iload X.1 X.2.1 dX4_share_63 (lv_at hl 1 rfl) ?_
          refine lv_i2l X.1 X.2.1 dX4_share_65 rfl ?_
          refine lv_bipush (v := 8) X.1 X.2.1 dX4_share_66 (by decide) ?_
          refine lv_iload X.1 X.2.1 dX4_share_68 (lv_at hl 3 rfl) ?_
          refine lv_imul X.1 X.2.1 dX4_share_70 ?_
          refine lv_lshl X.1 X.2.1 dX4_share_71 rfl ?_
          refine lv_lor X.1 X.2.1 dX4_share_72 ?_
          obtain ⟨w7, ew7, hf⟩ := stp_e hf
          refine z_topl ew7 ?_
          refine lv_lstore (lv' := [(5, .long w7), (2, .int n45_0), (4, .int n45_1), (7, .int n45_3)]) X.1 X.2.1 dX4_share_73 hl (by decide) rfl (fun ls hl => ?_)
          obtain ⟨w8, ew8, hf⟩ := stp_e hf
          refine lv_iinc (v := w8) (lv' := [(7, .int w8), (5, .long w7), (2, .int n45_0), (4, .int n45_1)]) X.1 X.2.1 dX4_share_75 hl (k := 3) rfl (by rw [ew8]; rfl) (by decide) rfl (fun ls hl => ?_)
          refine lv_goto (tgt := 45) X.1 X.2.1 dX4_share_78 (by decide) ?_
          exact ih _ _ _ _ hf _ _ hP hD hS _ (lv_sub hl [2, 3, 1, 0] rfl)
  have L6_0 : ∀ (n : Nat), ∀ (n6_0 : Int64) (n6_1 : Int32) (n6_2 : Int32) (n6_3 : Int32) , fX4_share_6 n n6_0 n6_1 n6_2 n6_3 = some q_ → ∀ (H : Heap) (locs : List Loc), va_P D vwCl (([] : va_W)) H → va_D A (([] : va_W)) → va_S A s.heap H locs → ∀ (ls : Array Slot), lv_has ls 8 [(0, .long n6_0), (2, .int n6_1), (4, .int n6_2), (5, .int n6_3)] → W p l e rmX4_share s m ([.long x1, .int x2, .int x3] : List Value).toArray below meth c H locs 0 0 (MQ below (zQ (some (.long q_)) D A (([] : va_W))) ([.long x1, .int x2, .int x3] : List Value).toArray s 0 0 A) (F0 m 6 ls []) := by
    intro n
    induction n with
    | zero =>
      intro n6_0 n6_1 n6_2 n6_3  hf
      rw [fX4_share_6] at hf
      cases hf
    | succ n ih =>
      intro n6_0 n6_1 n6_2 n6_3  hf H locs hP hD hS ls hl
      rw [fX4_share_6] at hf
      refine lv_iload X.1 X.2.1 dX4_share_6 (lv_at hl 3 rfl) ?_
      refine lv_bipush (v := 8) X.1 X.2.1 dX4_share_8 (by decide) ?_
      refine lv_icmp_ge (tgt := 39) X.1 X.2.1 dX4_share_10 (by decide) (fun c1 => ?_) (fun c1 => ?_)
      · have hf := ite_t hf c1
        refine lv_lload_n X.1 X.2.1 dX4_share_39 rfl (lv_at hl 0 rfl) ?_
        refine lv_lstore (lv' := [(5, .long n6_0), (0, .long n6_0), (2, .int n6_1), (4, .int n6_2)]) X.1 X.2.1 dX4_share_40 hl (by decide) rfl (fun ls hl => ?_)
        refine lv_iconst (v := 0) X.1 X.2.1 dX4_share_42 (by decide) ?_
        refine lv_istore (lv' := [(7, .int 0), (5, .long n6_0), (0, .long n6_0), (2, .int n6_1), (4, .int n6_2)]) X.1 X.2.1 dX4_share_43 hl (by decide) rfl (fun ls hl => ?_)
        exact L45_1  _ _ _ _ _ hf _ _ hP hD hS _ (lv_sub hl [3, 4, 1, 0] rfl)
      · have hf := ite_f hf c1
        refine lv_iload_n X.1 X.2.1 dX4_share_13 rfl (lv_at hl 1 rfl) ?_
        refine lv_iload X.1 X.2.1 dX4_share_14 (lv_at hl 3 rfl) ?_
        obtain ⟨r9, hc10, hf⟩ := bd1_e hf
        refine z_SN (n := 2) (As := [.int n6_1, .int n6_3]) (rest := []) (host := "LeaversFloor") X hK hN (kX8_has l D K _ n6_1 n6_3 r9 hc10) (bw_G W13_15) (by decide) (bw_in W1_2) (bw_in W13_14) rfl ⟨rfl, rfl⟩ (by decide +kernel) rfl ⟨Nat.le_of_ble_eq_true rfl, Nat.le_of_ble_eq_true rfl⟩ (fun _ _ h => by simp at h) ⟨fun _ _ _ _ h => by simp at h, fun _ _ h => by simp at h⟩ (zj_none hP hD hS hA) hS hl.1 rfl (Nat.le_of_ble_eq_true rfl) dX4_share_16 ⟨Nat.zero_le _, Nat.zero_le _⟩ rfl (fun H locs hP hD hS => ?_)
        refine lv_if_eq (tgt := 33) X.1 X.2.1 dX4_share_19 (by decide) (fun c11 => ?_) (fun c11 => ?_)
        · have hf := ite_t hf c11
          obtain ⟨w12, ew12, hf⟩ := stp_e hf
          refine lv_iinc (v := w12) (lv' := [(5, .int w12), (0, .long n6_0), (2, .int n6_1), (4, .int n6_2)]) X.1 X.2.1 dX4_share_33 hl (k := 3) rfl (by rw [ew12]; rfl) (by decide) rfl (fun ls hl => ?_)
          refine lv_goto (tgt := 6) X.1 X.2.1 dX4_share_36 (by decide) ?_
          exact ih _ _ _ _ hf _ _ hP hD hS _ (lv_sub hl [1, 2, 3, 0] rfl)
        · have hf := ite_f hf c11
          refine lv_iload X.1 X.2.1 dX4_share_22 (lv_at hl 2 rfl) ?_
          refine lv_lload_n X.1 X.2.1 dX4_share_24 rfl (lv_at hl 0 rfl) ?_
          refine lv_iload X.1 X.2.1 dX4_share_25 (lv_at hl 3 rfl) ?_
          obtain ⟨r13, hc14, hf⟩ := bd1_e hf
          refine z_SN (n := 2) (As := [.long n6_0, .int n6_3]) (rest := [.int n6_2]) (host := "LeaversFloor") X hK hN (kX8_byteOf l D K _ n6_0 n6_3 r13 hc14) (bw_G W26_5) (by decide) (bw_in W1_2) (bw_in W26_4) rfl ⟨rfl, rfl⟩ (by decide +kernel) rfl ⟨Nat.le_of_ble_eq_true rfl, Nat.le_of_ble_eq_true rfl⟩ (fun _ _ h => by simp at h) ⟨fun _ _ _ _ h => by simp at h, fun _ _ h => by simp at h⟩ (zj_none hP hD hS hA) hS hl.1 rfl (Nat.le_of_ble_eq_true rfl) dX4_share_27 ⟨Nat.zero_le _, Nat.zero_le _⟩ rfl (fun H locs hP hD hS => ?_)
          refine lv_ior X.1 X.2.1 dX4_share_30 ?_
          obtain ⟨w15, ew15, hf⟩ := stp_e hf
          refine z_top ew15 ?_
          refine lv_istore (lv' := [(4, .int w15), (0, .long n6_0), (2, .int n6_1), (5, .int n6_3)]) X.1 X.2.1 dX4_share_31 hl (by decide) rfl (fun ls hl => ?_)
          obtain ⟨w16, ew16, hf⟩ := stp_e hf
          refine lv_iinc (v := w16) (lv' := [(5, .int w16), (4, .int w15), (0, .long n6_0), (2, .int n6_1)]) X.1 X.2.1 dX4_share_33 hl (k := 3) rfl (by rw [ew16]; rfl) (by decide) rfl (fun ls hl => ?_)
          refine lv_goto (tgt := 6) X.1 X.2.1 dX4_share_36 (by decide) ?_
          exact ih _ _ _ _ hf _ _ hP hD hS _ (lv_sub hl [2, 3, 1, 0] rfl)
  rw [fX4_share] at hf
  refine lv_iload_n X.1 X.2.1 dX4_share_0 rfl (lv_at hl 2 rfl) ?_
  refine lv_istore (lv' := [(4, .int x3), (0, .long x1), (2, .int x2), (3, .int x3)]) X.1 X.2.1 dX4_share_1 hl (by decide) rfl (fun ls hl => ?_)
  refine lv_iconst (v := 0) X.1 X.2.1 dX4_share_3 (by decide) ?_
  refine lv_istore (lv' := [(5, .int 0), (4, .int x3), (0, .long x1), (2, .int x2), (3, .int x3)]) X.1 X.2.1 dX4_share_4 hl (by decide) rfl (fun ls hl => ?_)
  exact L6_0  _ _ _ _ _ hf _ _ hP hD hS _ (lv_sub hl [2, 3, 1, 0] rfl)
abbrev rmX4_heard : Room := { frames := 2, cells := 0, slots := 0, locals := 49 }
set_option maxHeartbeats 4000000 in
set_option maxRecDepth 100000 in
theorem kX4_heard (l : Launch) (D : va_G) (K : Nat → ClassId) (aH : Nat → Nat) (aR : Nat → Nat) (h0 : St) (r0 : St) (sz : Nat)  (q_ : Int64) (hf : fX4_heard h0 r0 = some q_) : Met l yX4_heard (bw (Cond.code yX4_heard cX4_heard 4 (some .long))) rmX4_heard (va_Pc [.ref (aR 0)] (zB D K sz (wbX2 K aH h0 ++ (wbX4 K (aH 0) aR r0)))) (zQ (some (.long q_)) D (va_A (wbX2 K aH h0 ++ (wbX4 K (aH 0) aR r0)) sz) (wbX2 K aH h0 ++ (wbX4 K (aH 0) aR r0))) 0 0 (va_A (wbX2 K aH h0 ++ (wbX4 K (aH 0) aR r0)) sz) := by
  refine z_of (cc := cX4_heard) (maxL := 4) (ret := (some .long)) (own := RX4) (lv := [(0, .ref (aR 0))]) (by decide) rfl rfl (Nat.le_of_ble_eq_true rfl) rfl ?_
  intro p e s m below meth c X hr hlk hK hN hsz hP hD hA hS hin ls hl
  generalize va_A (wbX2 K aH h0 ++ (wbX4 K (aH 0) aR r0)) sz = A at hD hA hS hN ⊢
  have hiX4 : ∀ w ∈ u_ws RX4 TX4 12, w ∈ (bw (Cond.code yX4_heard cX4_heard 4 (some .long))) := fun w h => bw_in (inlX4 w h)
  have L4_0 : ∀ (n : Nat), ∀ (n4_0 : Int64) (n4_1 : Int32) , fX4_heard_4 h0 r0 n n4_0 n4_1 = some q_ → ∀ (H : Heap) (locs : List Loc), va_P D vwCl (wbX2 K aH h0 ++ (wbX4 K (aH 0) aR r0)) H → va_D A (wbX2 K aH h0 ++ (wbX4 K (aH 0) aR r0)) → va_S A s.heap H locs → ∀ (ls : Array Slot), lv_has ls 4 [(0, .ref (aR 0)), (1, .long n4_0), (3, .int n4_1)] → W p l e rmX4_heard s m ([.ref (aR 0)] : List Value).toArray below meth c H locs 0 0 (MQ below (zQ (some (.long q_)) D A (wbX2 K aH h0 ++ (wbX4 K (aH 0) aR r0))) ([.ref (aR 0)] : List Value).toArray s 0 0 A) (F0 m 4 ls []) := by
    intro n
    induction n with
    | zero =>
      intro n4_0 n4_1  hf
      rw [fX4_heard_4] at hf
      cases hf
    | succ n ih =>
      intro n4_0 n4_1  hf H locs hP hD hS ls hl
      rw [fX4_heard_4] at hf
      refine lv_iload_n X.1 X.2.1 dX4_heard_4 rfl (lv_at hl 2 rfl) ?_
      refine lv_aload_n X.1 X.2.1 dX4_heard_5 rfl (lv_at hl 0 rfl) ?_
      refine z_get X hK hP hiX4 9 rfl rfl 9 (by decide) (bw_in W4_5) rfl dX4_heard_6 ?_
      refine lv_icmp_ge (tgt := 44) X.1 X.2.1 dX4_heard_9 (by decide) (fun c1 => ?_) (fun c1 => ?_)
      · have hf := ite_t hf c1
        refine lv_lload_n X.1 X.2.1 dX4_heard_44 rfl (lv_at hl 1 rfl) ?_
        obtain rfl := z_inj1 hf
        exact z_lret X hr hlk hP hD hS dX4_heard_45
      · have hf := ite_f hf c1
        refine lv_aload_n X.1 X.2.1 dX4_heard_12 rfl (lv_at hl 0 rfl) ?_
        refine z_get X hK hP hiX4 9 rfl rfl 4 (by decide) (bw_in W4_0) rfl dX4_heard_13 ?_
        refine lv_iload_n X.1 X.2.1 dX4_heard_16 rfl (lv_at hl 2 rfl) ?_
        obtain ⟨hi3, hf⟩ := chk_e hf
        obtain ⟨v2, ev2, hf⟩ := stp_e hf
        refine z_iald X hK hP 13 rfl hi3 ev2 dX4_heard_17 ?_
        refine lv_if_eq (tgt := 38) X.1 X.2.1 dX4_heard_18 (by decide) (fun c4 => ?_) (fun c4 => ?_)
        · have hf := ite_t hf c4
          obtain ⟨w5, ew5, hf⟩ := stp_e hf
          refine lv_iinc (v := w5) (lv' := [(3, .int w5), (0, .ref (aR 0)), (1, .long n4_0)]) X.1 X.2.1 dX4_heard_38 hl (k := 2) rfl (by rw [ew5]; rfl) (by decide) rfl (fun ls hl => ?_)
          refine lv_goto (tgt := 4) X.1 X.2.1 dX4_heard_41 (by decide) ?_
          exact ih _ _ hf _ _ hP hD hS _ (lv_sub hl [1, 2, 0] rfl)
        · have hf := ite_f hf c4
          refine lv_lload_n X.1 X.2.1 dX4_heard_21 rfl (lv_at hl 1 rfl) ?_
          refine lv_aload_n X.1 X.2.1 dX4_heard_22 rfl (lv_at hl 0 rfl) ?_
          refine z_get X hK hP hiX4 9 rfl rfl 4 (by decide) (bw_in W4_0) rfl dX4_heard_23 ?_
          refine lv_iload_n X.1 X.2.1 dX4_heard_26 rfl (lv_at hl 2 rfl) ?_
          obtain ⟨hi7, hf⟩ := chk_e hf
          obtain ⟨v6, ev6, hf⟩ := stp_e hf
          refine z_iald X hK hP 13 rfl hi7 ev6 dX4_heard_27 ?_
          refine lv_aload_n X.1 X.2.1 dX4_heard_28 rfl (lv_at hl 0 rfl) ?_
          refine z_get X hK hP hiX4 9 rfl rfl 5 (by decide) (bw_in W4_1) rfl dX4_heard_29 ?_
          refine lv_iload_n X.1 X.2.1 dX4_heard_32 rfl (lv_at hl 2 rfl) ?_
          obtain ⟨hi9, hf⟩ := chk_e hf
          obtain ⟨v8, ev8, hf⟩ := stp_e hf
          refine z_iald X hK hP 14 rfl hi9 ev8 dX4_heard_33 ?_
          obtain ⟨r10, hc11, hf⟩ := bd1_e hf
          refine z_S (n := 3) (As := [.long n4_0, .int v6, .int v8]) (rest := []) X hK hN (kX4_share l D K _ n4_0 v6 v8 r10 hc11) (bw_S W26_1 W26_2 W1_22 W26_3) rfl ⟨rfl, rfl⟩ (by decide +kernel) rfl ⟨Nat.le_of_ble_eq_true rfl, Nat.le_of_ble_eq_true rfl⟩ (fun _ _ h => by simp at h) ⟨fun _ _ _ _ h => by simp at h, fun _ _ h => by simp at h⟩ (zj_none hP hD hS hA) hS hl.1 rfl (Nat.le_of_ble_eq_true rfl) dX4_heard_34 ⟨Nat.zero_le _, Nat.zero_le _⟩ rfl (fun H locs hP hD hS => ?_)
          refine lv_lstore_n (lv' := [(1, .long r10), (0, .ref (aR 0)), (3, .int n4_1)]) X.1 X.2.1 dX4_heard_37 rfl hl (by decide) rfl (fun ls hl => ?_)
          obtain ⟨w12, ew12, hf⟩ := stp_e hf
          refine lv_iinc (v := w12) (lv' := [(3, .int w12), (1, .long r10), (0, .ref (aR 0))]) X.1 X.2.1 dX4_heard_38 hl (k := 2) rfl (by rw [ew12]; rfl) (by decide) rfl (fun ls hl => ?_)
          refine lv_goto (tgt := 4) X.1 X.2.1 dX4_heard_41 (by decide) ?_
          exact ih _ _ hf _ _ hP hD hS _ (lv_sub hl [2, 1, 0] rfl)
  rw [fX4_heard] at hf
  refine lv_lconst (v := 0) X.1 X.2.1 dX4_heard_0 rfl ?_
  refine lv_lstore_n (lv' := [(1, .long 0), (0, .ref (aR 0))]) X.1 X.2.1 dX4_heard_1 rfl hl (by decide) rfl (fun ls hl => ?_)
  refine lv_iconst (v := 0) X.1 X.2.1 dX4_heard_2 (by decide) ?_
  refine lv_istore_n (lv' := [(3, .int 0), (1, .long 0), (0, .ref (aR 0))]) X.1 X.2.1 dX4_heard_3 rfl hl (by decide) rfl (fun ls hl => ?_)
  exact L4_0  _ _ _ hf _ _ hP hD hS _ (lv_sub hl [2, 1, 0] rfl)
abbrev rmX4_known : Room := { frames := 1, cells := 0, slots := 0, locals := 21 }
set_option maxHeartbeats 4000000 in
set_option maxRecDepth 100000 in
theorem kX4_known (l : Launch) (D : va_G) (K : Nat → ClassId) (aH : Nat → Nat) (aR : Nat → Nat) (h0 : St) (r0 : St) (sz : Nat) (x1 : Int32) (q_ : Int32) (hf : fX4_known h0 r0 x1 = some q_) : Met l yX4_known (bw (Cond.code yX4_known cX4_known 4 (some .int))) rmX4_known (va_Pc [.ref (aR 0), .int x1] (zB D K sz (wbX2 K aH h0 ++ (wbX4 K (aH 0) aR r0)))) (zQ (some (.int q_)) D (va_A (wbX2 K aH h0 ++ (wbX4 K (aH 0) aR r0)) sz) (wbX2 K aH h0 ++ (wbX4 K (aH 0) aR r0))) 0 0 (va_A (wbX2 K aH h0 ++ (wbX4 K (aH 0) aR r0)) sz) := by
  refine z_of (cc := cX4_known) (maxL := 4) (ret := (some .int)) (own := RX4) (lv := [(0, .ref (aR 0)), (1, .int x1)]) (by decide) rfl rfl (Nat.le_of_ble_eq_true rfl) rfl ?_
  intro p e s m below meth c X hr hlk hK hN hsz hP hD hA hS hin ls hl
  generalize va_A (wbX2 K aH h0 ++ (wbX4 K (aH 0) aR r0)) sz = A at hD hA hS hN ⊢
  have hiX4 : ∀ w ∈ u_ws RX4 TX4 12, w ∈ (bw (Cond.code yX4_known cX4_known 4 (some .int))) := fun w h => bw_in (inlX4 w h)
  have L4_0 : ∀ (n : Nat), ∀ (n4_0 : Int32) (n4_1 : Int32) (n4_2 : Int32) , fX4_known_4 h0 r0 n n4_0 n4_1 n4_2 = some q_ → ∀ (H : Heap) (locs : List Loc), va_P D vwCl (wbX2 K aH h0 ++ (wbX4 K (aH 0) aR r0)) H → va_D A (wbX2 K aH h0 ++ (wbX4 K (aH 0) aR r0)) → va_S A s.heap H locs → ∀ (ls : Array Slot), lv_has ls 4 [(0, .ref (aR 0)), (1, .int n4_0), (2, .int n4_1), (3, .int n4_2)] → W p l e rmX4_known s m ([.ref (aR 0), .int x1] : List Value).toArray below meth c H locs 0 0 (MQ below (zQ (some (.int q_)) D A (wbX2 K aH h0 ++ (wbX4 K (aH 0) aR r0))) ([.ref (aR 0), .int x1] : List Value).toArray s 0 0 A) (F0 m 4 ls []) := by
    intro n
    induction n with
    | zero =>
      intro n4_0 n4_1 n4_2  hf
      rw [fX4_known_4] at hf
      cases hf
    | succ n ih =>
      intro n4_0 n4_1 n4_2  hf H locs hP hD hS ls hl
      rw [fX4_known_4] at hf
      refine lv_iload_n X.1 X.2.1 dX4_known_4 rfl (lv_at hl 3 rfl) ?_
      refine lv_aload_n X.1 X.2.1 dX4_known_5 rfl (lv_at hl 0 rfl) ?_
      refine z_get X hK hP hiX4 9 rfl rfl 9 (by decide) (bw_in W4_5) rfl dX4_known_6 ?_
      refine lv_icmp_ge (tgt := 40) X.1 X.2.1 dX4_known_9 (by decide) (fun c1 => ?_) (fun c1 => ?_)
      · have hf := ite_t hf c1
        refine lv_iload_n X.1 X.2.1 dX4_known_40 rfl (lv_at hl 2 rfl) ?_
        obtain rfl := z_inj1 hf
        exact z_iret X hr hlk hP hD hS dX4_known_41
      · have hf := ite_f hf c1
        refine lv_aload_n X.1 X.2.1 dX4_known_12 rfl (lv_at hl 0 rfl) ?_
        refine z_get X hK hP hiX4 9 rfl rfl 4 (by decide) (bw_in W4_0) rfl dX4_known_13 ?_
        refine lv_iload_n X.1 X.2.1 dX4_known_16 rfl (lv_at hl 3 rfl) ?_
        obtain ⟨hi3, hf⟩ := chk_e hf
        obtain ⟨v2, ev2, hf⟩ := stp_e hf
        refine z_iald X hK hP 13 rfl hi3 ev2 dX4_known_17 ?_
        refine lv_iload_n X.1 X.2.1 dX4_known_18 rfl (lv_at hl 1 rfl) ?_
        obtain ⟨r4, hc5, hf⟩ := bd1_e hf
        refine z_SN (n := 2) (As := [.int v2, .int n4_0]) (rest := []) (host := "LeaversFloor") X hK hN (kX8_has l D K _ v2 n4_0 r4 hc5) (bw_G W13_15) (by decide) (bw_in W1_2) (bw_in W13_14) rfl ⟨rfl, rfl⟩ (by decide +kernel) rfl ⟨Nat.le_of_ble_eq_true rfl, Nat.le_of_ble_eq_true rfl⟩ (fun _ _ h => by simp at h) ⟨fun _ _ _ _ h => by simp at h, fun _ _ h => by simp at h⟩ (zj_none hP hD hS hA) hS hl.1 rfl (Nat.le_of_ble_eq_true rfl) dX4_known_19 ⟨Nat.zero_le _, Nat.zero_le _⟩ rfl (fun H locs hP hD hS => ?_)
        refine lv_if_eq (tgt := 34) X.1 X.2.1 dX4_known_22 (by decide) (fun c6 => ?_) (fun c6 => ?_)
        · have hf := ite_t hf c6
          obtain ⟨w7, ew7, hf⟩ := stp_e hf
          refine lv_iinc (v := w7) (lv' := [(3, .int w7), (0, .ref (aR 0)), (1, .int n4_0), (2, .int n4_1)]) X.1 X.2.1 dX4_known_34 hl (k := 3) rfl (by rw [ew7]; rfl) (by decide) rfl (fun ls hl => ?_)
          refine lv_goto (tgt := 4) X.1 X.2.1 dX4_known_37 (by decide) ?_
          exact ih _ _ _ hf _ _ hP hD hS _ (lv_sub hl [1, 2, 3, 0] rfl)
        · have hf := ite_f hf c6
          refine lv_iload_n X.1 X.2.1 dX4_known_25 rfl (lv_at hl 2 rfl) ?_
          refine lv_aload_n X.1 X.2.1 dX4_known_26 rfl (lv_at hl 0 rfl) ?_
          refine z_get X hK hP hiX4 9 rfl rfl 5 (by decide) (bw_in W4_1) rfl dX4_known_27 ?_
          refine lv_iload_n X.1 X.2.1 dX4_known_30 rfl (lv_at hl 3 rfl) ?_
          obtain ⟨hi9, hf⟩ := chk_e hf
          obtain ⟨v8, ev8, hf⟩ := stp_e hf
          refine z_iald X hK hP 14 rfl hi9 ev8 dX4_known_31 ?_
          refine lv_ior X.1 X.2.1 dX4_known_32 ?_
          obtain ⟨w10, ew10, hf⟩ := stp_e hf
          refine z_top ew10 ?_
          refine lv_istore_n (lv' := [(2, .int w10), (0, .ref (aR 0)), (1, .int n4_0), (3, .int n4_2)]) X.1 X.2.1 dX4_known_33 rfl hl (by decide) rfl (fun ls hl => ?_)
          obtain ⟨w11, ew11, hf⟩ := stp_e hf
          refine lv_iinc (v := w11) (lv' := [(3, .int w11), (2, .int w10), (0, .ref (aR 0)), (1, .int n4_0)]) X.1 X.2.1 dX4_known_34 hl (k := 3) rfl (by rw [ew11]; rfl) (by decide) rfl (fun ls hl => ?_)
          refine lv_goto (tgt := 4) X.1 X.2.1 dX4_known_37 (by decide) ?_
          exact ih _ _ _ hf _ _ hP hD hS _ (lv_sub hl [2, 3, 1, 0] rfl)
  rw [fX4_known] at hf
  refine lv_iconst (v := 0) X.1 X.2.1 dX4_known_0 (by decide) ?_
  refine lv_istore_n (lv' := [(2, .int 0), (0, .ref (aR 0)), (1, .int x1)]) X.1 X.2.1 dX4_known_1 rfl hl (by decide) rfl (fun ls hl => ?_)
  refine lv_iconst (v := 0) X.1 X.2.1 dX4_known_2 (by decide) ?_
  refine lv_istore_n (lv' := [(3, .int 0), (2, .int 0), (0, .ref (aR 0)), (1, .int x1)]) X.1 X.2.1 dX4_known_3 rfl hl (by decide) rfl (fun ls hl => ?_)
  exact L4_0  _ _ _ _ hf _ _ hP hD hS _ (lv_sub hl [2, 3, 1, 0] rfl)
abbrev rmX4_placeBehind : Room := { frames := 0, cells := 0, slots := 0, locals := 0 }
set_option maxHeartbeats 4000000 in
set_option maxRecDepth 100000 in
theorem kX4_placeBehind (l : Launch) (D : va_G) (K : Nat → ClassId) (aH : Nat → Nat) (aR : Nat → Nat) (h0 : St) (r0 : St) (sz : Nat) (x1 : Int32) (x2 : Int32) (q_ : Int32) (hf : fX4_placeBehind h0 r0 x1 x2 = some q_) : Met l yX4_placeBehind (bw (Cond.code yX4_placeBehind cX4_placeBehind 6 (some .int))) rmX4_placeBehind (va_Pc [.ref (aR 0), .int x1, .int x2] (zB D K sz (wbX2 K aH h0 ++ (wbX4 K (aH 0) aR r0)))) (zQ (some (.int q_)) D (va_A (wbX2 K aH h0 ++ (wbX4 K (aH 0) aR r0)) sz) (wbX2 K aH h0 ++ (wbX4 K (aH 0) aR r0))) 0 0 (va_A (wbX2 K aH h0 ++ (wbX4 K (aH 0) aR r0)) sz) := by
  refine z_of (cc := cX4_placeBehind) (maxL := 6) (ret := (some .int)) (own := RX4) (lv := [(0, .ref (aR 0)), (1, .int x1), (2, .int x2)]) (by decide) rfl rfl (Nat.le_of_ble_eq_true rfl) rfl ?_
  intro p e s m below meth c X hr hlk hK hN hsz hP hD hA hS hin ls hl
  generalize va_A (wbX2 K aH h0 ++ (wbX4 K (aH 0) aR r0)) sz = A at hD hA hS hN ⊢
  have hiX4 : ∀ w ∈ u_ws RX4 TX4 12, w ∈ (bw (Cond.code yX4_placeBehind cX4_placeBehind 6 (some .int))) := fun w h => bw_in (inlX4 w h)
  rw [fX4_placeBehind] at hf
  refine lv_iload_n X.1 X.2.1 dX4_placeBehind_0 rfl (lv_at hl 1 rfl) ?_
  refine lv_aload_n X.1 X.2.1 dX4_placeBehind_1 rfl (lv_at hl 0 rfl) ?_
  refine z_get X hK hP hiX4 9 rfl rfl 1 (by decide) (bw_in W3_21) rfl dX4_placeBehind_2 ?_
  refine lv_iload_n X.1 X.2.1 dX4_placeBehind_5 rfl (lv_at hl 2 rfl) ?_
  obtain ⟨hi2, hf⟩ := chk_e hf
  obtain ⟨v1, ev1, hf⟩ := stp_e hf
  refine z_iald X hK hP 10 rfl hi2 ev1 dX4_placeBehind_6 ?_
  refine lv_isub X.1 X.2.1 dX4_placeBehind_7 ?_
  obtain ⟨w3, ew3, hf⟩ := stp_e hf
  refine z_top ew3 ?_
  refine lv_istore_n (lv' := [(3, .int w3), (0, .ref (aR 0)), (1, .int x1), (2, .int x2)]) X.1 X.2.1 dX4_placeBehind_8 rfl hl (by decide) rfl (fun ls hl => ?_)
  refine lv_iload_n X.1 X.2.1 dX4_placeBehind_9 rfl (lv_at hl 0 rfl) ?_
  refine lv_if_eq (tgt := 23) X.1 X.2.1 dX4_placeBehind_10 (by decide) (fun c4 => ?_) (fun c4 => ?_)
  · have hf := ite_t hf c4
    refine lv_aload_n X.1 X.2.1 dX4_placeBehind_23 rfl (lv_at hl 1 rfl) ?_
    refine z_get X hK hP hiX4 9 rfl rfl 2 (by decide) (bw_in W3_22) rfl dX4_placeBehind_24 ?_
    refine lv_iload_n X.1 X.2.1 dX4_placeBehind_27 rfl (lv_at hl 3 rfl) ?_
    obtain ⟨hi6, hf⟩ := chk_e hf
    obtain ⟨v5, ev5, hf⟩ := stp_e hf
    refine z_iald X hK hP 11 rfl hi6 ev5 dX4_placeBehind_28 ?_
    obtain rfl := z_inj1 hf
    exact z_iret X hr hlk hP hD hS dX4_placeBehind_29
  · have hf := ite_f hf c4
    refine lv_iload_n X.1 X.2.1 dX4_placeBehind_13 rfl (lv_at hl 3 rfl) ?_
    refine lv_iconst (v := 1) X.1 X.2.1 dX4_placeBehind_14 (by decide) ?_
    refine lv_iadd X.1 X.2.1 dX4_placeBehind_15 ?_
    refine lv_aload_n X.1 X.2.1 dX4_placeBehind_16 rfl (lv_at hl 1 rfl) ?_
    refine z_get X hK hP hiX4 9 rfl rfl 9 (by decide) (bw_in W4_5) rfl dX4_placeBehind_17 ?_
    refine lv_icmp_lt (tgt := 30) X.1 X.2.1 dX4_placeBehind_20 (by decide) (fun c7 => ?_) (fun c7 => ?_)
    · have hf := ite_t hf c7
      refine lv_aload_n X.1 X.2.1 dX4_placeBehind_30 rfl (lv_at hl 1 rfl) ?_
      refine z_get X hK hP hiX4 9 rfl rfl 2 (by decide) (bw_in W3_22) rfl dX4_placeBehind_31 ?_
      refine lv_iload_n X.1 X.2.1 dX4_placeBehind_34 rfl (lv_at hl 3 rfl) ?_
      refine lv_iconst (v := 1) X.1 X.2.1 dX4_placeBehind_35 (by decide) ?_
      refine lv_iadd X.1 X.2.1 dX4_placeBehind_36 ?_
      obtain ⟨hi9, hf⟩ := chk_e hf
      obtain ⟨v8, ev8, hf⟩ := stp_e hf
      refine z_iald X hK hP 11 rfl hi9 ev8 dX4_placeBehind_37 ?_
      refine lv_aload_n X.1 X.2.1 dX4_placeBehind_38 rfl (lv_at hl 1 rfl) ?_
      refine z_get X hK hP hiX4 9 rfl rfl 2 (by decide) (bw_in W3_22) rfl dX4_placeBehind_39 ?_
      refine lv_iload_n X.1 X.2.1 dX4_placeBehind_42 rfl (lv_at hl 3 rfl) ?_
      obtain ⟨hi11, hf⟩ := chk_e hf
      obtain ⟨v10, ev10, hf⟩ := stp_e hf
      refine z_iald X hK hP 11 rfl hi11 ev10 dX4_placeBehind_43 ?_
      refine lv_icmp_le (tgt := 51) X.1 X.2.1 dX4_placeBehind_44 (by decide) (fun c12 => ?_) (fun c12 => ?_)
      · have hf := ite_t hf c12
        refine lv_iconst (v := -1) X.1 X.2.1 dX4_placeBehind_51 (by decide) ?_
        refine lv_istore (lv' := [(4, .int ((-1))), (3, .int w3), (0, .ref (aR 0)), (1, .int x1), (2, .int x2)]) X.1 X.2.1 dX4_placeBehind_52 hl (by decide) rfl (fun ls hl => ?_)
        refine lv_aload_n X.1 X.2.1 dX4_placeBehind_54 rfl (lv_at hl 2 rfl) ?_
        refine z_get X hK hP hiX4 9 rfl rfl 2 (by decide) (bw_in W3_22) rfl dX4_placeBehind_55 ?_
        refine lv_iload_n X.1 X.2.1 dX4_placeBehind_58 rfl (lv_at hl 4 rfl) ?_
        obtain ⟨hi14, hf⟩ := chk_e hf
        obtain ⟨v13, ev13, hf⟩ := stp_e hf
        refine z_iald X hK hP 11 rfl hi14 ev13 dX4_placeBehind_59 ?_
        refine lv_iconst (v := 2) X.1 X.2.1 dX4_placeBehind_60 (by decide) ?_
        refine lv_irem X.1 X.2.1 dX4_placeBehind_61 (by decide) ?_
        refine lv_if_ne (tgt := 69) X.1 X.2.1 dX4_placeBehind_62 (by decide) (fun c15 => ?_) (fun c15 => ?_)
        · have hf := ite_f hf c15
          refine lv_iconst (v := 1) X.1 X.2.1 dX4_placeBehind_69 (by decide) ?_
          refine lv_istore (lv' := [(5, .int 1), (4, .int ((-1))), (3, .int w3), (0, .ref (aR 0)), (1, .int x1), (2, .int x2)]) X.1 X.2.1 dX4_placeBehind_70 hl (by decide) rfl (fun ls hl => ?_)
          refine lv_aload_n X.1 X.2.1 dX4_placeBehind_72 rfl (lv_at hl 3 rfl) ?_
          refine z_get X hK hP hiX4 9 rfl rfl 2 (by decide) (bw_in W3_22) rfl dX4_placeBehind_73 ?_
          refine lv_iload_n X.1 X.2.1 dX4_placeBehind_76 rfl (lv_at hl 5 rfl) ?_
          obtain ⟨hi17, hf⟩ := chk_e hf
          obtain ⟨v16, ev16, hf⟩ := stp_e hf
          refine z_iald X hK hP 11 rfl hi17 ev16 dX4_placeBehind_77 ?_
          refine lv_iload X.1 X.2.1 dX4_placeBehind_78 (lv_at hl 1 rfl) ?_
          refine lv_iload X.1 X.2.1 dX4_placeBehind_80 (lv_at hl 0 rfl) ?_
          refine lv_iconst (v := 2) X.1 X.2.1 dX4_placeBehind_82 (by decide) ?_
          refine lv_iload_n X.1 X.2.1 dX4_placeBehind_83 rfl (lv_at hl 2 rfl) ?_
          refine lv_iconst (v := 1) X.1 X.2.1 dX4_placeBehind_84 (by decide) ?_
          refine lv_isub X.1 X.2.1 dX4_placeBehind_85 ?_
          refine lv_imul X.1 X.2.1 dX4_placeBehind_86 ?_
          refine lv_iadd X.1 X.2.1 dX4_placeBehind_87 ?_
          refine lv_imul X.1 X.2.1 dX4_placeBehind_88 ?_
          refine lv_iadd X.1 X.2.1 dX4_placeBehind_89 ?_
          obtain rfl := z_inj1 hf
          exact z_iret X hr hlk hP hD hS dX4_placeBehind_90
        · have hf := ite_t hf c15
          refine lv_iconst (v := 2) X.1 X.2.1 dX4_placeBehind_65 (by decide) ?_
          refine lv_goto (tgt := 70) X.1 X.2.1 dX4_placeBehind_66 (by decide) ?_
          refine lv_istore (lv' := [(5, .int 2), (4, .int ((-1))), (3, .int w3), (0, .ref (aR 0)), (1, .int x1), (2, .int x2)]) X.1 X.2.1 dX4_placeBehind_70 hl (by decide) rfl (fun ls hl => ?_)
          refine lv_aload_n X.1 X.2.1 dX4_placeBehind_72 rfl (lv_at hl 3 rfl) ?_
          refine z_get X hK hP hiX4 9 rfl rfl 2 (by decide) (bw_in W3_22) rfl dX4_placeBehind_73 ?_
          refine lv_iload_n X.1 X.2.1 dX4_placeBehind_76 rfl (lv_at hl 5 rfl) ?_
          obtain ⟨hi19, hf⟩ := chk_e hf
          obtain ⟨v18, ev18, hf⟩ := stp_e hf
          refine z_iald X hK hP 11 rfl hi19 ev18 dX4_placeBehind_77 ?_
          refine lv_iload X.1 X.2.1 dX4_placeBehind_78 (lv_at hl 1 rfl) ?_
          refine lv_iload X.1 X.2.1 dX4_placeBehind_80 (lv_at hl 0 rfl) ?_
          refine lv_iconst (v := 2) X.1 X.2.1 dX4_placeBehind_82 (by decide) ?_
          refine lv_iload_n X.1 X.2.1 dX4_placeBehind_83 rfl (lv_at hl 2 rfl) ?_
          refine lv_iconst (v := 1) X.1 X.2.1 dX4_placeBehind_84 (by decide) ?_
          refine lv_isub X.1 X.2.1 dX4_placeBehind_85 ?_
          refine lv_imul X.1 X.2.1 dX4_placeBehind_86 ?_
          refine lv_iadd X.1 X.2.1 dX4_placeBehind_87 ?_
          refine lv_imul X.1 X.2.1 dX4_placeBehind_88 ?_
          refine lv_iadd X.1 X.2.1 dX4_placeBehind_89 ?_
          obtain rfl := z_inj1 hf
          exact z_iret X hr hlk hP hD hS dX4_placeBehind_90
      · have hf := ite_f hf c12
        refine lv_iconst (v := 1) X.1 X.2.1 dX4_placeBehind_47 (by decide) ?_
        refine lv_goto (tgt := 52) X.1 X.2.1 dX4_placeBehind_48 (by decide) ?_
        refine lv_istore (lv' := [(4, .int 1), (3, .int w3), (0, .ref (aR 0)), (1, .int x1), (2, .int x2)]) X.1 X.2.1 dX4_placeBehind_52 hl (by decide) rfl (fun ls hl => ?_)
        refine lv_aload_n X.1 X.2.1 dX4_placeBehind_54 rfl (lv_at hl 2 rfl) ?_
        refine z_get X hK hP hiX4 9 rfl rfl 2 (by decide) (bw_in W3_22) rfl dX4_placeBehind_55 ?_
        refine lv_iload_n X.1 X.2.1 dX4_placeBehind_58 rfl (lv_at hl 4 rfl) ?_
        obtain ⟨hi21, hf⟩ := chk_e hf
        obtain ⟨v20, ev20, hf⟩ := stp_e hf
        refine z_iald X hK hP 11 rfl hi21 ev20 dX4_placeBehind_59 ?_
        refine lv_iconst (v := 2) X.1 X.2.1 dX4_placeBehind_60 (by decide) ?_
        refine lv_irem X.1 X.2.1 dX4_placeBehind_61 (by decide) ?_
        refine lv_if_ne (tgt := 69) X.1 X.2.1 dX4_placeBehind_62 (by decide) (fun c22 => ?_) (fun c22 => ?_)
        · have hf := ite_f hf c22
          refine lv_iconst (v := 1) X.1 X.2.1 dX4_placeBehind_69 (by decide) ?_
          refine lv_istore (lv' := [(5, .int 1), (4, .int 1), (3, .int w3), (0, .ref (aR 0)), (1, .int x1), (2, .int x2)]) X.1 X.2.1 dX4_placeBehind_70 hl (by decide) rfl (fun ls hl => ?_)
          refine lv_aload_n X.1 X.2.1 dX4_placeBehind_72 rfl (lv_at hl 3 rfl) ?_
          refine z_get X hK hP hiX4 9 rfl rfl 2 (by decide) (bw_in W3_22) rfl dX4_placeBehind_73 ?_
          refine lv_iload_n X.1 X.2.1 dX4_placeBehind_76 rfl (lv_at hl 5 rfl) ?_
          obtain ⟨hi24, hf⟩ := chk_e hf
          obtain ⟨v23, ev23, hf⟩ := stp_e hf
          refine z_iald X hK hP 11 rfl hi24 ev23 dX4_placeBehind_77 ?_
          refine lv_iload X.1 X.2.1 dX4_placeBehind_78 (lv_at hl 1 rfl) ?_
          refine lv_iload X.1 X.2.1 dX4_placeBehind_80 (lv_at hl 0 rfl) ?_
          refine lv_iconst (v := 2) X.1 X.2.1 dX4_placeBehind_82 (by decide) ?_
          refine lv_iload_n X.1 X.2.1 dX4_placeBehind_83 rfl (lv_at hl 2 rfl) ?_
          refine lv_iconst (v := 1) X.1 X.2.1 dX4_placeBehind_84 (by decide) ?_
          refine lv_isub X.1 X.2.1 dX4_placeBehind_85 ?_
          refine lv_imul X.1 X.2.1 dX4_placeBehind_86 ?_
          refine lv_iadd X.1 X.2.1 dX4_placeBehind_87 ?_
          refine lv_imul X.1 X.2.1 dX4_placeBehind_88 ?_
          refine lv_iadd X.1 X.2.1 dX4_placeBehind_89 ?_
          obtain rfl := z_inj1 hf
          exact z_iret X hr hlk hP hD hS dX4_placeBehind_90
        · have hf := ite_t hf c22
          refine lv_iconst (v := 2) X.1 X.2.1 dX4_placeBehind_65 (by decide) ?_
          refine lv_goto (tgt := 70) X.1 X.2.1 dX4_placeBehind_66 (by decide) ?_
          refine lv_istore (lv' := [(5, .int 2), (4, .int 1), (3, .int w3), (0, .ref (aR 0)), (1, .int x1), (2, .int x2)]) X.1 X.2.1 dX4_placeBehind_70 hl (by decide) rfl (fun ls hl => ?_)
          refine lv_aload_n X.1 X.2.1 dX4_placeBehind_72 rfl (lv_at hl 3 rfl) ?_
          refine z_get X hK hP hiX4 9 rfl rfl 2 (by decide) (bw_in W3_22) rfl dX4_placeBehind_73 ?_
          refine lv_iload_n X.1 X.2.1 dX4_placeBehind_76 rfl (lv_at hl 5 rfl) ?_
          obtain ⟨hi26, hf⟩ := chk_e hf
          obtain ⟨v25, ev25, hf⟩ := stp_e hf
          refine z_iald X hK hP 11 rfl hi26 ev25 dX4_placeBehind_77 ?_
          refine lv_iload X.1 X.2.1 dX4_placeBehind_78 (lv_at hl 1 rfl) ?_
          refine lv_iload X.1 X.2.1 dX4_placeBehind_80 (lv_at hl 0 rfl) ?_
          refine lv_iconst (v := 2) X.1 X.2.1 dX4_placeBehind_82 (by decide) ?_
          refine lv_iload_n X.1 X.2.1 dX4_placeBehind_83 rfl (lv_at hl 2 rfl) ?_
          refine lv_iconst (v := 1) X.1 X.2.1 dX4_placeBehind_84 (by decide) ?_
          refine lv_isub X.1 X.2.1 dX4_placeBehind_85 ?_
          refine lv_imul X.1 X.2.1 dX4_placeBehind_86 ?_
          refine lv_iadd X.1 X.2.1 dX4_placeBehind_87 ?_
          refine lv_imul X.1 X.2.1 dX4_placeBehind_88 ?_
          refine lv_iadd X.1 X.2.1 dX4_placeBehind_89 ?_
          obtain rfl := z_inj1 hf
          exact z_iret X hr hlk hP hD hS dX4_placeBehind_90
    · have hf := ite_f hf c7
      refine lv_aload_n X.1 X.2.1 dX4_placeBehind_23 rfl (lv_at hl 1 rfl) ?_
      refine z_get X hK hP hiX4 9 rfl rfl 2 (by decide) (bw_in W3_22) rfl dX4_placeBehind_24 ?_
      refine lv_iload_n X.1 X.2.1 dX4_placeBehind_27 rfl (lv_at hl 3 rfl) ?_
      obtain ⟨hi28, hf⟩ := chk_e hf
      obtain ⟨v27, ev27, hf⟩ := stp_e hf
      refine z_iald X hK hP 11 rfl hi28 ev27 dX4_placeBehind_28 ?_
      obtain rfl := z_inj1 hf
      exact z_iret X hr hlk hP hD hS dX4_placeBehind_29
abbrev rmX4_refusesInRow : Room := { frames := 0, cells := 0, slots := 0, locals := 0 }
set_option maxHeartbeats 4000000 in
set_option maxRecDepth 100000 in
theorem kX4_refusesInRow (l : Launch) (D : va_G) (K : Nat → ClassId) (aH : Nat → Nat) (aR : Nat → Nat) (h0 : St) (r0 : St) (sz : Nat)  (q_ : Int32) (hf : fX4_refusesInRow h0 r0 = some q_) : Met l yX4_refusesInRow (bw (Cond.code yX4_refusesInRow cX4_refusesInRow 2 (some .int))) rmX4_refusesInRow (va_Pc [.ref (aR 0)] (zB D K sz (wbX2 K aH h0 ++ (wbX4 K (aH 0) aR r0)))) (zQ (some (.int q_)) D (va_A (wbX2 K aH h0 ++ (wbX4 K (aH 0) aR r0)) sz) (wbX2 K aH h0 ++ (wbX4 K (aH 0) aR r0))) 0 0 (va_A (wbX2 K aH h0 ++ (wbX4 K (aH 0) aR r0)) sz) := by
  refine z_of (cc := cX4_refusesInRow) (maxL := 2) (ret := (some .int)) (own := RX4) (lv := [(0, .ref (aR 0))]) (by decide) rfl rfl (Nat.le_of_ble_eq_true rfl) rfl ?_
  intro p e s m below meth c X hr hlk hK hN hsz hP hD hA hS hin ls hl
  generalize va_A (wbX2 K aH h0 ++ (wbX4 K (aH 0) aR r0)) sz = A at hD hA hS hN ⊢
  have hiX4 : ∀ w ∈ u_ws RX4 TX4 12, w ∈ (bw (Cond.code yX4_refusesInRow cX4_refusesInRow 2 (some .int))) := fun w h => bw_in (inlX4 w h)
  have L2_0 : ∀ (n : Nat), ∀ (n2_0 : Int32) , fX4_refusesInRow_2 h0 r0 n n2_0 = some q_ → ∀ (H : Heap) (locs : List Loc), va_P D vwCl (wbX2 K aH h0 ++ (wbX4 K (aH 0) aR r0)) H → va_D A (wbX2 K aH h0 ++ (wbX4 K (aH 0) aR r0)) → va_S A s.heap H locs → ∀ (ls : Array Slot), lv_has ls 2 [(0, .ref (aR 0)), (1, .int n2_0)] → W p l e rmX4_refusesInRow s m ([.ref (aR 0)] : List Value).toArray below meth c H locs 0 0 (MQ below (zQ (some (.int q_)) D A (wbX2 K aH h0 ++ (wbX4 K (aH 0) aR r0))) ([.ref (aR 0)] : List Value).toArray s 0 0 A) (F0 m 2 ls []) := by
    intro n
    induction n with
    | zero =>
      intro n2_0  hf
      rw [fX4_refusesInRow_2] at hf
      cases hf
    | succ n ih =>
      intro n2_0  hf H locs hP hD hS ls hl
      rw [fX4_refusesInRow_2] at hf
      refine lv_iload_n X.1 X.2.1 dX4_refusesInRow_2 rfl (lv_at hl 1 rfl) ?_
      refine lv_aload_n X.1 X.2.1 dX4_refusesInRow_3 rfl (lv_at hl 0 rfl) ?_
      refine z_get X hK hP hiX4 9 rfl rfl 9 (by decide) (bw_in W4_5) rfl dX4_refusesInRow_4 ?_
      refine lv_icmp_ge (tgt := 27) X.1 X.2.1 dX4_refusesInRow_7 (by decide) (fun c1 => ?_) (fun c1 => ?_)
      · have hf := ite_t hf c1
        refine lv_iconst (v := -1) X.1 X.2.1 dX4_refusesInRow_27 (by decide) ?_
        obtain rfl := z_inj1 hf
        exact z_iret X hr hlk hP hD hS dX4_refusesInRow_28
      · have hf := ite_f hf c1
        refine lv_aload_n X.1 X.2.1 dX4_refusesInRow_10 rfl (lv_at hl 0 rfl) ?_
        refine z_get X hK hP hiX4 9 rfl rfl 8 (by decide) (bw_in W4_4) rfl dX4_refusesInRow_11 ?_
        refine lv_iload_n X.1 X.2.1 dX4_refusesInRow_14 rfl (lv_at hl 1 rfl) ?_
        obtain ⟨hi3, hf⟩ := chk_e hf
        obtain ⟨v2, ev2, hf⟩ := stp_e hf
        refine z_iald X hK hP 17 rfl hi3 ev2 dX4_refusesInRow_15 ?_
        refine lv_if_eq (tgt := 21) X.1 X.2.1 dX4_refusesInRow_16 (by decide) (fun c4 => ?_) (fun c4 => ?_)
        · have hf := ite_t hf c4
          obtain ⟨w5, ew5, hf⟩ := stp_e hf
          refine lv_iinc (v := w5) (lv' := [(1, .int w5), (0, .ref (aR 0))]) X.1 X.2.1 dX4_refusesInRow_21 hl (k := 1) rfl (by rw [ew5]; rfl) (by decide) rfl (fun ls hl => ?_)
          refine lv_goto (tgt := 2) X.1 X.2.1 dX4_refusesInRow_24 (by decide) ?_
          exact ih _ hf _ _ hP hD hS _ (lv_sub hl [1, 0] rfl)
        · have hf := ite_f hf c4
          refine lv_iload_n X.1 X.2.1 dX4_refusesInRow_19 rfl (lv_at hl 1 rfl) ?_
          obtain rfl := z_inj1 hf
          exact z_iret X hr hlk hP hD hS dX4_refusesInRow_20
  rw [fX4_refusesInRow] at hf
  refine lv_iconst (v := 0) X.1 X.2.1 dX4_refusesInRow_0 (by decide) ?_
  refine lv_istore_n (lv' := [(1, .int 0), (0, .ref (aR 0))]) X.1 X.2.1 dX4_refusesInRow_1 rfl hl (by decide) rfl (fun ls hl => ?_)
  exact L2_0  _ _ hf _ _ hP hD hS _ (lv_sub hl [1, 0] rfl)
abbrev rmX4_refusesBehind : Room := { frames := 1, cells := 0, slots := 0, locals := 21 }
set_option maxHeartbeats 4000000 in
set_option maxRecDepth 100000 in
theorem kX4_refusesBehind (l : Launch) (D : va_G) (K : Nat → ClassId) (aH : Nat → Nat) (aR : Nat → Nat) (h0 : St) (r0 : St) (sz : Nat)  (q_ : Int32) (hf : fX4_refusesBehind h0 r0 = some q_) : Met l yX4_refusesBehind (bw (Cond.code yX4_refusesBehind cX4_refusesBehind 2 (some .int))) rmX4_refusesBehind (va_Pc [.ref (aR 0)] (zB D K sz (wbX2 K aH h0 ++ (wbX4 K (aH 0) aR r0)))) (zQ (some (.int q_)) D (va_A (wbX2 K aH h0 ++ (wbX4 K (aH 0) aR r0)) sz) (wbX2 K aH h0 ++ (wbX4 K (aH 0) aR r0))) 0 0 (va_A (wbX2 K aH h0 ++ (wbX4 K (aH 0) aR r0)) sz) := by
  refine z_of (cc := cX4_refusesBehind) (maxL := 2) (ret := (some .int)) (own := RX4) (lv := [(0, .ref (aR 0))]) (by decide) rfl rfl (Nat.le_of_ble_eq_true rfl) rfl ?_
  intro p e s m below meth c X hr hlk hK hN hsz hP hD hA hS hin ls hl
  generalize va_A (wbX2 K aH h0 ++ (wbX4 K (aH 0) aR r0)) sz = A at hD hA hS hN ⊢
  have hiX4 : ∀ w ∈ u_ws RX4 TX4 12, w ∈ (bw (Cond.code yX4_refusesBehind cX4_refusesBehind 2 (some .int))) := fun w h => bw_in (inlX4 w h)
  rw [fX4_refusesBehind] at hf
  refine lv_aload_n X.1 X.2.1 dX4_refusesBehind_0 rfl (lv_at hl 0 rfl) ?_
  obtain ⟨r1, hc2, hf⟩ := bd1_e hf
  refine z_V (n := 0) (As := []) (rest := []) (ci := 4) (q0 := 9) X hK hN (kX4_refusesInRow l D K aH aR h0 r0 _ r1 hc2) (bw_V W24_3 W24_4 W24_5 W1_22 W24_6) rfl ⟨rfl, rfl⟩ (by decide +kernel) rfl ⟨Nat.le_of_ble_eq_true rfl, Nat.le_of_ble_eq_true rfl⟩ hP hD rfl rfl (zj_same hD hS hA) hS hl.1 rfl (Nat.le_of_ble_eq_true rfl) dX4_refusesBehind_1 ⟨Nat.zero_le _, Nat.zero_le _⟩ rfl (fun H locs hP hD hS => ?_)
  refine lv_istore_n (lv' := [(1, .int r1), (0, .ref (aR 0))]) X.1 X.2.1 dX4_refusesBehind_4 rfl hl (by decide) rfl (fun ls hl => ?_)
  refine lv_iload_n X.1 X.2.1 dX4_refusesBehind_5 rfl (lv_at hl 0 rfl) ?_
  refine lv_if_ge (tgt := 13) X.1 X.2.1 dX4_refusesBehind_6 (by decide) (fun c3 => ?_) (fun c3 => ?_)
  · have hf := ite_t hf c3
    refine lv_aload_n X.1 X.2.1 dX4_refusesBehind_13 rfl (lv_at hl 1 rfl) ?_
    refine z_get X hK hP hiX4 9 rfl rfl 1 (by decide) (bw_in W3_21) rfl dX4_refusesBehind_14 ?_
    refine lv_iload_n X.1 X.2.1 dX4_refusesBehind_17 rfl (lv_at hl 0 rfl) ?_
    obtain ⟨hi5, hf⟩ := chk_e hf
    obtain ⟨v4, ev4, hf⟩ := stp_e hf
    refine z_iald X hK hP 10 rfl hi5 ev4 dX4_refusesBehind_18 ?_
    obtain rfl := z_inj1 hf
    exact z_iret X hr hlk hP hD hS dX4_refusesBehind_19
  · have hf := ite_f hf c3
    refine lv_iconst (v := -1) X.1 X.2.1 dX4_refusesBehind_9 (by decide) ?_
    refine lv_goto (tgt := 19) X.1 X.2.1 dX4_refusesBehind_10 (by decide) ?_
    obtain rfl := z_inj1 hf
    exact z_iret X hr hlk hP hD hS dX4_refusesBehind_19
abbrev rmX4_refusesWhom : Room := { frames := 1, cells := 0, slots := 0, locals := 21 }
set_option maxHeartbeats 4000000 in
set_option maxRecDepth 100000 in
theorem kX4_refusesWhom (l : Launch) (D : va_G) (K : Nat → ClassId) (aH : Nat → Nat) (aR : Nat → Nat) (h0 : St) (r0 : St) (sz : Nat)  (q_ : Int32) (hf : fX4_refusesWhom h0 r0 = some q_) : Met l yX4_refusesWhom (bw (Cond.code yX4_refusesWhom cX4_refusesWhom 3 (some .int))) rmX4_refusesWhom (va_Pc [.ref (aR 0)] (zB D K sz (wbX2 K aH h0 ++ (wbX4 K (aH 0) aR r0)))) (zQ (some (.int q_)) D (va_A (wbX2 K aH h0 ++ (wbX4 K (aH 0) aR r0)) sz) (wbX2 K aH h0 ++ (wbX4 K (aH 0) aR r0))) 0 0 (va_A (wbX2 K aH h0 ++ (wbX4 K (aH 0) aR r0)) sz) := by
  refine z_of (cc := cX4_refusesWhom) (maxL := 3) (ret := (some .int)) (own := RX4) (lv := [(0, .ref (aR 0))]) (by decide) rfl rfl (Nat.le_of_ble_eq_true rfl) rfl ?_
  intro p e s m below meth c X hr hlk hK hN hsz hP hD hA hS hin ls hl
  generalize va_A (wbX2 K aH h0 ++ (wbX4 K (aH 0) aR r0)) sz = A at hD hA hS hN ⊢
  have hiX4 : ∀ w ∈ u_ws RX4 TX4 12, w ∈ (bw (Cond.code yX4_refusesWhom cX4_refusesWhom 3 (some .int))) := fun w h => bw_in (inlX4 w h)
  have L7_0 : ∀ (n : Nat), ∀ (n7_0 : Int32) (n7_1 : Int32) , fX4_refusesWhom_7 h0 r0 n n7_0 n7_1 = some q_ → ∀ (H : Heap) (locs : List Loc), va_P D vwCl (wbX2 K aH h0 ++ (wbX4 K (aH 0) aR r0)) H → va_D A (wbX2 K aH h0 ++ (wbX4 K (aH 0) aR r0)) → va_S A s.heap H locs → ∀ (ls : Array Slot), lv_has ls 3 [(0, .ref (aR 0)), (1, .int n7_0), (2, .int n7_1)] → W p l e rmX4_refusesWhom s m ([.ref (aR 0)] : List Value).toArray below meth c H locs 0 0 (MQ below (zQ (some (.int q_)) D A (wbX2 K aH h0 ++ (wbX4 K (aH 0) aR r0))) ([.ref (aR 0)] : List Value).toArray s 0 0 A) (F0 m 7 ls []) := by
    intro n
    induction n with
    | zero =>
      intro n7_0 n7_1  hf
      rw [fX4_refusesWhom_7] at hf
      cases hf
    | succ n ih =>
      intro n7_0 n7_1  hf H locs hP hD hS ls hl
      rw [fX4_refusesWhom_7] at hf
      refine lv_iload_n X.1 X.2.1 dX4_refusesWhom_7 rfl (lv_at hl 1 rfl) ?_
      refine lv_if_lt (tgt := 38) X.1 X.2.1 dX4_refusesWhom_8 (by decide) (fun c3 => ?_) (fun c3 => ?_)
      · have hf := ite_t hf c3
        refine lv_iconst (v := -1) X.1 X.2.1 dX4_refusesWhom_38 (by decide) ?_
        obtain rfl := z_inj1 hf
        exact z_iret X hr hlk hP hD hS dX4_refusesWhom_39
      · have hf := ite_f hf c3
        refine lv_iload_n X.1 X.2.1 dX4_refusesWhom_11 rfl (lv_at hl 2 rfl) ?_
        refine lv_bipush (v := 8) X.1 X.2.1 dX4_refusesWhom_12 (by decide) ?_
        refine lv_icmp_ge (tgt := 38) X.1 X.2.1 dX4_refusesWhom_14 (by decide) (fun c4 => ?_) (fun c4 => ?_)
        · have hf := ite_t hf c4
          refine lv_iconst (v := -1) X.1 X.2.1 dX4_refusesWhom_38 (by decide) ?_
          obtain rfl := z_inj1 hf
          exact z_iret X hr hlk hP hD hS dX4_refusesWhom_39
        · have hf := ite_f hf c4
          refine lv_aload_n X.1 X.2.1 dX4_refusesWhom_17 rfl (lv_at hl 0 rfl) ?_
          refine z_get X hK hP hiX4 9 rfl rfl 8 (by decide) (bw_in W4_4) rfl dX4_refusesWhom_18 ?_
          refine lv_iload_n X.1 X.2.1 dX4_refusesWhom_21 rfl (lv_at hl 1 rfl) ?_
          obtain ⟨hi6, hf⟩ := chk_e hf
          obtain ⟨v5, ev5, hf⟩ := stp_e hf
          refine z_iald X hK hP 17 rfl hi6 ev5 dX4_refusesWhom_22 ?_
          refine lv_iload_n X.1 X.2.1 dX4_refusesWhom_23 rfl (lv_at hl 2 rfl) ?_
          obtain ⟨r7, hc8, hf⟩ := bd1_e hf
          refine z_SN (n := 2) (As := [.int v5, .int n7_1]) (rest := []) (host := "LeaversFloor") X hK hN (kX8_has l D K _ v5 n7_1 r7 hc8) (bw_G W13_15) (by decide) (bw_in W1_2) (bw_in W13_14) rfl ⟨rfl, rfl⟩ (by decide +kernel) rfl ⟨Nat.le_of_ble_eq_true rfl, Nat.le_of_ble_eq_true rfl⟩ (fun _ _ h => by simp at h) ⟨fun _ _ _ _ h => by simp at h, fun _ _ h => by simp at h⟩ (zj_none hP hD hS hA) hS hl.1 rfl (Nat.le_of_ble_eq_true rfl) dX4_refusesWhom_24 ⟨Nat.zero_le _, Nat.zero_le _⟩ rfl (fun H locs hP hD hS => ?_)
          refine lv_if_eq (tgt := 32) X.1 X.2.1 dX4_refusesWhom_27 (by decide) (fun c9 => ?_) (fun c9 => ?_)
          · have hf := ite_t hf c9
            obtain ⟨w10, ew10, hf⟩ := stp_e hf
            refine lv_iinc (v := w10) (lv' := [(2, .int w10), (0, .ref (aR 0)), (1, .int n7_0)]) X.1 X.2.1 dX4_refusesWhom_32 hl (k := 2) rfl (by rw [ew10]; rfl) (by decide) rfl (fun ls hl => ?_)
            refine lv_goto (tgt := 7) X.1 X.2.1 dX4_refusesWhom_35 (by decide) ?_
            exact ih _ _ hf _ _ hP hD hS _ (lv_sub hl [1, 2, 0] rfl)
          · have hf := ite_f hf c9
            refine lv_iload_n X.1 X.2.1 dX4_refusesWhom_30 rfl (lv_at hl 2 rfl) ?_
            obtain rfl := z_inj1 hf
            exact z_iret X hr hlk hP hD hS dX4_refusesWhom_31
  rw [fX4_refusesWhom] at hf
  refine lv_aload_n X.1 X.2.1 dX4_refusesWhom_0 rfl (lv_at hl 0 rfl) ?_
  obtain ⟨r1, hc2, hf⟩ := bd1_e hf
  refine z_V (n := 0) (As := []) (rest := []) (ci := 4) (q0 := 9) X hK hN (kX4_refusesInRow l D K aH aR h0 r0 _ r1 hc2) (bw_V W24_3 W24_4 W24_5 W1_22 W24_6) rfl ⟨rfl, rfl⟩ (by decide +kernel) rfl ⟨Nat.le_of_ble_eq_true rfl, Nat.le_of_ble_eq_true rfl⟩ hP hD rfl rfl (zj_same hD hS hA) hS hl.1 rfl (Nat.le_of_ble_eq_true rfl) dX4_refusesWhom_1 ⟨Nat.zero_le _, Nat.zero_le _⟩ rfl (fun H locs hP hD hS => ?_)
  refine lv_istore_n (lv' := [(1, .int r1), (0, .ref (aR 0))]) X.1 X.2.1 dX4_refusesWhom_4 rfl hl (by decide) rfl (fun ls hl => ?_)
  refine lv_iconst (v := 0) X.1 X.2.1 dX4_refusesWhom_5 (by decide) ?_
  refine lv_istore_n (lv' := [(2, .int 0), (1, .int r1), (0, .ref (aR 0))]) X.1 X.2.1 dX4_refusesWhom_6 rfl hl (by decide) rfl (fun ls hl => ?_)
  exact L7_0  _ _ _ hf _ _ hP hD hS _ (lv_sub hl [2, 1, 0] rfl)
abbrev rmX4_rowBehind : Room := { frames := 0, cells := 0, slots := 0, locals := 0 }
set_option maxHeartbeats 4000000 in
set_option maxRecDepth 100000 in
theorem kX4_rowBehind (l : Launch) (D : va_G) (K : Nat → ClassId) (aH : Nat → Nat) (aR : Nat → Nat) (h0 : St) (r0 : St) (sz : Nat) (x1 : Int32) (q_ : Int32) (hf : fX4_rowBehind h0 r0 x1 = some q_) : Met l yX4_rowBehind (bw (Cond.code yX4_rowBehind cX4_rowBehind 3 (some .int))) rmX4_rowBehind (va_Pc [.ref (aR 0), .int x1] (zB D K sz (wbX2 K aH h0 ++ (wbX4 K (aH 0) aR r0)))) (zQ (some (.int q_)) D (va_A (wbX2 K aH h0 ++ (wbX4 K (aH 0) aR r0)) sz) (wbX2 K aH h0 ++ (wbX4 K (aH 0) aR r0))) 0 0 (va_A (wbX2 K aH h0 ++ (wbX4 K (aH 0) aR r0)) sz) := by
  refine z_of (cc := cX4_rowBehind) (maxL := 3) (ret := (some .int)) (own := RX4) (lv := [(0, .ref (aR 0)), (1, .int x1)]) (by decide) rfl rfl (Nat.le_of_ble_eq_true rfl) rfl ?_
  intro p e s m below meth c X hr hlk hK hN hsz hP hD hA hS hin ls hl
  generalize va_A (wbX2 K aH h0 ++ (wbX4 K (aH 0) aR r0)) sz = A at hD hA hS hN ⊢
  have hiX4 : ∀ w ∈ u_ws RX4 TX4 12, w ∈ (bw (Cond.code yX4_rowBehind cX4_rowBehind 3 (some .int))) := fun w h => bw_in (inlX4 w h)
  have L7_0 : ∀ (n : Nat), ∀ (n7_0 : Int32) (n7_1 : Int32) , fX4_rowBehind_7 h0 r0 n n7_0 n7_1 = some q_ → ∀ (H : Heap) (locs : List Loc), va_P D vwCl (wbX2 K aH h0 ++ (wbX4 K (aH 0) aR r0)) H → va_D A (wbX2 K aH h0 ++ (wbX4 K (aH 0) aR r0)) → va_S A s.heap H locs → ∀ (ls : Array Slot), lv_has ls 3 [(0, .ref (aR 0)), (1, .int n7_0), (2, .int n7_1)] → W p l e rmX4_rowBehind s m ([.ref (aR 0), .int x1] : List Value).toArray below meth c H locs 0 0 (MQ below (zQ (some (.int q_)) D A (wbX2 K aH h0 ++ (wbX4 K (aH 0) aR r0))) ([.ref (aR 0), .int x1] : List Value).toArray s 0 0 A) (F0 m 7 ls []) := by
    intro n
    induction n with
    | zero =>
      intro n7_0 n7_1  hf
      rw [fX4_rowBehind_7] at hf
      cases hf
    | succ n ih =>
      intro n7_0 n7_1  hf H locs hP hD hS ls hl
      rw [fX4_rowBehind_7] at hf
      refine lv_iload_n X.1 X.2.1 dX4_rowBehind_7 rfl (lv_at hl 2 rfl) ?_
      refine lv_if_le (tgt := 29) X.1 X.2.1 dX4_rowBehind_8 (by decide) (fun c2 => ?_) (fun c2 => ?_)
      · have hf := ite_t hf c2
        refine lv_iconst (v := 0) X.1 X.2.1 dX4_rowBehind_29 (by decide) ?_
        obtain rfl := z_inj1 hf
        exact z_iret X hr hlk hP hD hS dX4_rowBehind_30
      · have hf := ite_f hf c2
        refine lv_aload_n X.1 X.2.1 dX4_rowBehind_11 rfl (lv_at hl 0 rfl) ?_
        refine z_get X hK hP hiX4 9 rfl rfl 1 (by decide) (bw_in W3_21) rfl dX4_rowBehind_12 ?_
        refine lv_iload_n X.1 X.2.1 dX4_rowBehind_15 rfl (lv_at hl 2 rfl) ?_
        obtain ⟨hi4, hf⟩ := chk_e hf
        obtain ⟨v3, ev3, hf⟩ := stp_e hf
        refine z_iald X hK hP 10 rfl hi4 ev3 dX4_rowBehind_16 ?_
        refine lv_iload_n X.1 X.2.1 dX4_rowBehind_17 rfl (lv_at hl 1 rfl) ?_
        refine lv_icmp_gt (tgt := 23) X.1 X.2.1 dX4_rowBehind_18 (by decide) (fun c5 => ?_) (fun c5 => ?_)
        · have hf := ite_t hf c5
          obtain ⟨w6, ew6, hf⟩ := stp_e hf
          refine lv_iinc (v := w6) (lv' := [(2, .int w6), (0, .ref (aR 0)), (1, .int n7_0)]) X.1 X.2.1 dX4_rowBehind_23 hl (k := 2) rfl (by rw [ew6]; rfl) (by decide) rfl (fun ls hl => ?_)
          refine lv_goto (tgt := 7) X.1 X.2.1 dX4_rowBehind_26 (by decide) ?_
          exact ih _ _ hf _ _ hP hD hS _ (lv_sub hl [1, 2, 0] rfl)
        · have hf := ite_f hf c5
          refine lv_iload_n X.1 X.2.1 dX4_rowBehind_21 rfl (lv_at hl 2 rfl) ?_
          obtain rfl := z_inj1 hf
          exact z_iret X hr hlk hP hD hS dX4_rowBehind_22
  rw [fX4_rowBehind] at hf
  refine lv_aload_n X.1 X.2.1 dX4_rowBehind_0 rfl (lv_at hl 0 rfl) ?_
  refine z_get X hK hP hiX4 9 rfl rfl 9 (by decide) (bw_in W4_5) rfl dX4_rowBehind_1 ?_
  refine lv_iconst (v := 1) X.1 X.2.1 dX4_rowBehind_4 (by decide) ?_
  refine lv_isub X.1 X.2.1 dX4_rowBehind_5 ?_
  obtain ⟨w1, ew1, hf⟩ := stp_e hf
  refine z_top ew1 ?_
  refine lv_istore_n (lv' := [(2, .int w1), (0, .ref (aR 0)), (1, .int x1)]) X.1 X.2.1 dX4_rowBehind_6 rfl hl (by decide) rfl (fun ls hl => ?_)
  exact L7_0  _ _ _ hf _ _ hP hD hS _ (lv_sub hl [1, 2, 0] rfl)
abbrev rmX4_tell : Room := { frames := 1, cells := 0, slots := 0, locals := 25 }
set_option maxHeartbeats 4000000 in
set_option maxRecDepth 100000 in
theorem kX4_tell (l : Launch) (D : va_G) (K : Nat → ClassId) (aH : Nat → Nat) (aR : Nat → Nat) (h0 : St) (r0 : St) (sz : Nat) (x1 : Int32) (x2 : Int32) (q_ : Int32) (hf : fX4_tell h0 r0 x1 x2 = some q_) : Met l yX4_tell (bw (Cond.code yX4_tell cX4_tell 4 (some .int))) rmX4_tell (va_Pc [.ref (aR 0), .int x1, .int x2] (zB D K sz (wbX2 K aH h0 ++ (wbX4 K (aH 0) aR r0)))) (zQ (some (.int q_)) D (va_A (wbX2 K aH h0 ++ (wbX4 K (aH 0) aR r0)) sz) (wbX2 K aH h0 ++ (wbX4 K (aH 0) aR r0))) 0 0 (va_A (wbX2 K aH h0 ++ (wbX4 K (aH 0) aR r0)) sz) := by
  refine z_of (cc := cX4_tell) (maxL := 4) (ret := (some .int)) (own := RX4) (lv := [(0, .ref (aR 0)), (1, .int x1), (2, .int x2)]) (by decide) rfl rfl (Nat.le_of_ble_eq_true rfl) rfl ?_
  intro p e s m below meth c X hr hlk hK hN hsz hP hD hA hS hin ls hl
  generalize va_A (wbX2 K aH h0 ++ (wbX4 K (aH 0) aR r0)) sz = A at hD hA hS hN ⊢
  have hiX4 : ∀ w ∈ u_ws RX4 TX4 12, w ∈ (bw (Cond.code yX4_tell cX4_tell 4 (some .int))) := fun w h => bw_in (inlX4 w h)
  rw [fX4_tell] at hf
  refine lv_aload_n X.1 X.2.1 dX4_tell_0 rfl (lv_at hl 0 rfl) ?_
  refine lv_iload_n X.1 X.2.1 dX4_tell_1 rfl (lv_at hl 1 rfl) ?_
  obtain ⟨r1, hc2, hf⟩ := bd1_e hf
  refine z_V (n := 1) (As := [.int x1]) (rest := []) (ci := 4) (q0 := 9) X hK hN (kX4_rowBehind l D K aH aR h0 r0 _ x1 r1 hc2) (bw_V W19_3 W19_4 W19_5 W1_22 W19_6) rfl ⟨rfl, rfl⟩ (by decide +kernel) rfl ⟨Nat.le_of_ble_eq_true rfl, Nat.le_of_ble_eq_true rfl⟩ hP hD rfl rfl (zj_same hD hS hA) hS hl.1 rfl (Nat.le_of_ble_eq_true rfl) dX4_tell_2 ⟨Nat.zero_le _, Nat.zero_le _⟩ rfl (fun H locs hP hD hS => ?_)
  refine lv_istore_n (lv' := [(3, .int r1), (0, .ref (aR 0)), (1, .int x1), (2, .int x2)]) X.1 X.2.1 dX4_tell_5 rfl hl (by decide) rfl (fun ls hl => ?_)
  refine lv_iload_n X.1 X.2.1 dX4_tell_6 rfl (lv_at hl 3 rfl) ?_
  by_cases c3 : x2 = 0
  · have hf := ite_t hf c3
    refine lv_tableIn (tgt := 32) X.1 X.2.1 dX4_tell_7 (by rw [c3]; decide) (by rw [c3]; decide) (by rw [c3]; rfl) (by decide) ?_
    refine lv_aload_n X.1 X.2.1 dX4_tell_32 rfl (lv_at hl 1 rfl) ?_
    refine lv_iload_n X.1 X.2.1 dX4_tell_33 rfl (lv_at hl 2 rfl) ?_
    refine lv_iload_n X.1 X.2.1 dX4_tell_34 rfl (lv_at hl 0 rfl) ?_
    obtain ⟨r4, hc5, hf⟩ := bd1_e hf
    refine z_V (n := 2) (As := [.int x1, .int r1]) (rest := []) (ci := 4) (q0 := 9) X hK hN (kX4_placeBehind l D K aH aR h0 r0 _ x1 r1 r4 hc5) (bw_V W19_7 W19_8 W19_9 W1_22 W19_10) rfl ⟨rfl, rfl⟩ (by decide +kernel) rfl ⟨Nat.le_of_ble_eq_true rfl, Nat.le_of_ble_eq_true rfl⟩ hP hD rfl rfl (zj_same hD hS hA) hS hl.1 rfl (Nat.le_of_ble_eq_true rfl) dX4_tell_35 ⟨Nat.zero_le _, Nat.zero_le _⟩ rfl (fun H locs hP hD hS => ?_)
    obtain rfl := z_inj1 hf
    exact z_iret X hr hlk hP hD hS dX4_tell_38
  have hf := ite_f hf c3
  by_cases c6 : x2 = 1
  · have hf := ite_t hf c6
    refine lv_tableIn (tgt := 39) X.1 X.2.1 dX4_tell_7 (by rw [c6]; decide) (by rw [c6]; decide) (by rw [c6]; rfl) (by decide) ?_
    refine lv_aload_n X.1 X.2.1 dX4_tell_39 rfl (lv_at hl 1 rfl) ?_
    refine z_get X hK hP hiX4 9 rfl rfl 3 (by decide) (bw_in W3_23) rfl dX4_tell_40 ?_
    refine lv_iload_n X.1 X.2.1 dX4_tell_43 rfl (lv_at hl 0 rfl) ?_
    obtain ⟨hi8, hf⟩ := chk_e hf
    obtain ⟨v7, ev7, hf⟩ := stp_e hf
    refine z_iald X hK hP 12 rfl hi8 ev7 dX4_tell_44 ?_
    obtain rfl := z_inj1 hf
    exact z_iret X hr hlk hP hD hS dX4_tell_45
  have hf := ite_f hf c6
  by_cases c9 : x2 = 2
  · have hf := ite_t hf c9
    refine lv_tableIn (tgt := 46) X.1 X.2.1 dX4_tell_7 (by rw [c9]; decide) (by rw [c9]; decide) (by rw [c9]; rfl) (by decide) ?_
    refine lv_aload_n X.1 X.2.1 dX4_tell_46 rfl (lv_at hl 1 rfl) ?_
    refine z_get X hK hP hiX4 9 rfl rfl 4 (by decide) (bw_in W4_0) rfl dX4_tell_47 ?_
    refine lv_iload_n X.1 X.2.1 dX4_tell_50 rfl (lv_at hl 0 rfl) ?_
    obtain ⟨hi11, hf⟩ := chk_e hf
    obtain ⟨v10, ev10, hf⟩ := stp_e hf
    refine z_iald X hK hP 13 rfl hi11 ev10 dX4_tell_51 ?_
    obtain rfl := z_inj1 hf
    exact z_iret X hr hlk hP hD hS dX4_tell_52
  have hf := ite_f hf c9
  refine lv_tableOut (tgt := 53) X.1 X.2.1 dX4_tell_7 (by have nc3 := lv_neT c3 (a := 0) (by decide); have nc6 := lv_neT c6 (a := 1) (by decide); have nc9 := lv_neT c9 (a := 2) (by decide); omega) (by decide) ?_
  refine lv_aload_n X.1 X.2.1 dX4_tell_53 rfl (lv_at hl 1 rfl) ?_
  refine z_get X hK hP hiX4 9 rfl rfl 5 (by decide) (bw_in W4_1) rfl dX4_tell_54 ?_
  refine lv_iload_n X.1 X.2.1 dX4_tell_57 rfl (lv_at hl 0 rfl) ?_
  obtain ⟨hi13, hf⟩ := chk_e hf
  obtain ⟨v12, ev12, hf⟩ := stp_e hf
  refine z_iald X hK hP 14 rfl hi13 ev12 dX4_tell_58 ?_
  obtain rfl := z_inj1 hf
  exact z_iret X hr hlk hP hD hS dX4_tell_59
abbrev rmX4_timesRefused : Room := { frames := 0, cells := 0, slots := 0, locals := 0 }
set_option maxHeartbeats 4000000 in
set_option maxRecDepth 100000 in
theorem kX4_timesRefused (l : Launch) (D : va_G) (K : Nat → ClassId) (aH : Nat → Nat) (aR : Nat → Nat) (h0 : St) (r0 : St) (sz : Nat) (x1 : Int32) (q_ : Int32) (hf : fX4_timesRefused h0 r0 x1 = some q_) : Met l yX4_timesRefused (bw (Cond.code yX4_timesRefused cX4_timesRefused 4 (some .int))) rmX4_timesRefused (va_Pc [.ref (aR 0), .int x1] (zB D K sz (wbX2 K aH h0 ++ (wbX4 K (aH 0) aR r0)))) (zQ (some (.int q_)) D (va_A (wbX2 K aH h0 ++ (wbX4 K (aH 0) aR r0)) sz) (wbX2 K aH h0 ++ (wbX4 K (aH 0) aR r0))) 0 0 (va_A (wbX2 K aH h0 ++ (wbX4 K (aH 0) aR r0)) sz) := by
  refine z_of (cc := cX4_timesRefused) (maxL := 4) (ret := (some .int)) (own := RX4) (lv := [(0, .ref (aR 0)), (1, .int x1)]) (by decide) rfl rfl (Nat.le_of_ble_eq_true rfl) rfl ?_
  intro p e s m below meth c X hr hlk hK hN hsz hP hD hA hS hin ls hl
  generalize va_A (wbX2 K aH h0 ++ (wbX4 K (aH 0) aR r0)) sz = A at hD hA hS hN ⊢
  have hiX4 : ∀ w ∈ u_ws RX4 TX4 12, w ∈ (bw (Cond.code yX4_timesRefused cX4_timesRefused 4 (some .int))) := fun w h => bw_in (inlX4 w h)
  have L4_0 : ∀ (n : Nat), ∀ (n4_0 : Int32) (n4_1 : Int32) (n4_2 : Int32) , fX4_timesRefused_4 h0 r0 n n4_0 n4_1 n4_2 = some q_ → ∀ (H : Heap) (locs : List Loc), va_P D vwCl (wbX2 K aH h0 ++ (wbX4 K (aH 0) aR r0)) H → va_D A (wbX2 K aH h0 ++ (wbX4 K (aH 0) aR r0)) → va_S A s.heap H locs → ∀ (ls : Array Slot), lv_has ls 4 [(0, .ref (aR 0)), (1, .int n4_0), (2, .int n4_1), (3, .int n4_2)] → W p l e rmX4_timesRefused s m ([.ref (aR 0), .int x1] : List Value).toArray below meth c H locs 0 0 (MQ below (zQ (some (.int q_)) D A (wbX2 K aH h0 ++ (wbX4 K (aH 0) aR r0))) ([.ref (aR 0), .int x1] : List Value).toArray s 0 0 A) (F0 m 4 ls []) := by
    intro n
    induction n with
    | zero =>
      intro n4_0 n4_1 n4_2  hf
      rw [fX4_timesRefused_4] at hf
      cases hf
    | succ n ih =>
      intro n4_0 n4_1 n4_2  hf H locs hP hD hS ls hl
      rw [fX4_timesRefused_4] at hf
      refine lv_iload_n X.1 X.2.1 dX4_timesRefused_4 rfl (lv_at hl 3 rfl) ?_
      refine lv_aload_n X.1 X.2.1 dX4_timesRefused_5 rfl (lv_at hl 0 rfl) ?_
      refine z_get X hK hP hiX4 9 rfl rfl 9 (by decide) (bw_in W4_5) rfl dX4_timesRefused_6 ?_
      refine lv_icmp_ge (tgt := 31) X.1 X.2.1 dX4_timesRefused_9 (by decide) (fun c1 => ?_) (fun c1 => ?_)
      · have hf := ite_t hf c1
        refine lv_iload_n X.1 X.2.1 dX4_timesRefused_31 rfl (lv_at hl 2 rfl) ?_
        obtain rfl := z_inj1 hf
        exact z_iret X hr hlk hP hD hS dX4_timesRefused_32
      · have hf := ite_f hf c1
        refine lv_iload_n X.1 X.2.1 dX4_timesRefused_12 rfl (lv_at hl 2 rfl) ?_
        refine lv_aload_n X.1 X.2.1 dX4_timesRefused_13 rfl (lv_at hl 0 rfl) ?_
        refine z_get X hK hP hiX4 9 rfl rfl 8 (by decide) (bw_in W4_4) rfl dX4_timesRefused_14 ?_
        refine lv_iload_n X.1 X.2.1 dX4_timesRefused_17 rfl (lv_at hl 3 rfl) ?_
        obtain ⟨hi3, hf⟩ := chk_e hf
        obtain ⟨v2, ev2, hf⟩ := stp_e hf
        refine z_iald X hK hP 17 rfl hi3 ev2 dX4_timesRefused_18 ?_
        refine lv_iload_n X.1 X.2.1 dX4_timesRefused_19 rfl (lv_at hl 1 rfl) ?_
        refine lv_ishr X.1 X.2.1 dX4_timesRefused_20 ?_
        refine lv_iconst (v := 1) X.1 X.2.1 dX4_timesRefused_21 (by decide) ?_
        refine lv_iand X.1 X.2.1 dX4_timesRefused_22 ?_
        refine lv_iadd X.1 X.2.1 dX4_timesRefused_23 ?_
        obtain ⟨w4, ew4, hf⟩ := stp_e hf
        refine z_top ew4 ?_
        refine lv_istore_n (lv' := [(2, .int w4), (0, .ref (aR 0)), (1, .int n4_0), (3, .int n4_2)]) X.1 X.2.1 dX4_timesRefused_24 rfl hl (by decide) rfl (fun ls hl => ?_)
        obtain ⟨w5, ew5, hf⟩ := stp_e hf
        refine lv_iinc (v := w5) (lv' := [(3, .int w5), (2, .int w4), (0, .ref (aR 0)), (1, .int n4_0)]) X.1 X.2.1 dX4_timesRefused_25 hl (k := 3) rfl (by rw [ew5]; rfl) (by decide) rfl (fun ls hl => ?_)
        refine lv_goto (tgt := 4) X.1 X.2.1 dX4_timesRefused_28 (by decide) ?_
        exact ih _ _ _ hf _ _ hP hD hS _ (lv_sub hl [2, 3, 1, 0] rfl)
  rw [fX4_timesRefused] at hf
  refine lv_iconst (v := 0) X.1 X.2.1 dX4_timesRefused_0 (by decide) ?_
  refine lv_istore_n (lv' := [(2, .int 0), (0, .ref (aR 0)), (1, .int x1)]) X.1 X.2.1 dX4_timesRefused_1 rfl hl (by decide) rfl (fun ls hl => ?_)
  refine lv_iconst (v := 0) X.1 X.2.1 dX4_timesRefused_2 (by decide) ?_
  refine lv_istore_n (lv' := [(3, .int 0), (2, .int 0), (0, .ref (aR 0)), (1, .int x1)]) X.1 X.2.1 dX4_timesRefused_3 rfl hl (by decide) rfl (fun ls hl => ?_)
  exact L4_0  _ _ _ _ hf _ _ hP hD hS _ (lv_sub hl [2, 3, 1, 0] rfl)
abbrev rmX6_add : Room := { frames := 0, cells := 0, slots := 0, locals := 0 }
set_option maxHeartbeats 4000000 in
set_option maxRecDepth 100000 in
theorem kX6_add (l : Launch) (D : va_G) (K : Nat → ClassId) (aS : Nat → Nat) (v0 : St) (sz : Nat) (x1 : Int32) (x2 : Int32) (q_ : Int32) (v_ : St) (hf : fX6_add v0 x1 x2 = some (q_, v_)) : Met l yX6_add (bw (Cond.code yX6_add cX6_add 3 (some .boolean))) rmX6_add (va_Pc [.ref (aS 0), .int x1, .int x2] (zB D K sz (wbX6 K aS v0))) (zQ (some (.int q_)) D (va_A (wbX6 K aS v0) sz) (wbX6 K aS v_)) 0 0 (va_A (wbX6 K aS v0) sz) := by
  refine z_of (cc := cX6_add) (maxL := 3) (ret := (some .boolean)) (own := RX6) (lv := [(0, .ref (aS 0)), (1, .int x1), (2, .int x2)]) (by decide) rfl rfl (Nat.le_of_ble_eq_true rfl) rfl ?_
  intro p e s m below meth c X hr hlk hK hN hsz hP hD hA hS hin ls hl
  generalize va_A (wbX6 K aS v0) sz = A at hD hA hS hN ⊢
  have hiX6 : ∀ w ∈ u_ws RX6 TX6 3, w ∈ (bw (Cond.code yX6_add cX6_add 3 (some .boolean))) := fun w h => bw_in (inlX6 w h)
  rw [fX6_add] at hf
  refine lv_aload_n X.1 X.2.1 dX6_add_0 rfl (lv_at hl 0 rfl) ?_
  refine z_get X hK hP hiX6 0 rfl rfl 0 (by decide) (bw_in W5_10) rfl dX6_add_1 ?_
  refine lv_bipush (v := 8) X.1 X.2.1 dX6_add_4 (by decide) ?_
  refine lv_icmp_lt (tgt := 11) X.1 X.2.1 dX6_add_6 (by decide) (fun c1 => ?_) (fun c1 => ?_)
  · have hf := ite_t hf c1
    refine lv_aload_n X.1 X.2.1 dX6_add_11 rfl (lv_at hl 0 rfl) ?_
    refine z_get X hK hP hiX6 0 rfl rfl 1 (by decide) (bw_in W5_11) rfl dX6_add_12 ?_
    refine lv_aload_n X.1 X.2.1 dX6_add_15 rfl (lv_at hl 0 rfl) ?_
    refine z_get X hK hP hiX6 0 rfl rfl 0 (by decide) (bw_in W5_10) rfl dX6_add_16 ?_
    refine lv_iload_n X.1 X.2.1 dX6_add_19 rfl (lv_at hl 1 rfl) ?_
    obtain ⟨hi2, hf⟩ := chk_e hf
    obtain ⟨v3, ev3, hf⟩ := stp_e hf
    refine z_iast (ws' := wbX6 K aS v3) X hK hP hD hS 1 rfl hi2 dX6_add_20 (by rw [ev3]; rfl) (fun H locs hP hD hS => ?_)
    refine lv_aload_n X.1 X.2.1 dX6_add_21 rfl (lv_at hl 0 rfl) ?_
    refine z_get X hK hP hiX6 0 rfl rfl 2 (by decide) (bw_in W5_12) rfl dX6_add_22 ?_
    refine lv_aload_n X.1 X.2.1 dX6_add_25 rfl (lv_at hl 0 rfl) ?_
    refine z_get X hK hP hiX6 0 rfl rfl 0 (by decide) (bw_in W5_10) rfl dX6_add_26 ?_
    refine lv_iload_n X.1 X.2.1 dX6_add_29 rfl (lv_at hl 2 rfl) ?_
    obtain ⟨hi4, hf⟩ := chk_e hf
    obtain ⟨v5, ev5, hf⟩ := stp_e hf
    refine z_iast (ws' := wbX6 K aS v5) X hK hP hD hS 2 rfl hi4 dX6_add_30 (by rw [ev5]; rfl) (fun H locs hP hD hS => ?_)
    refine lv_aload_n X.1 X.2.1 dX6_add_31 rfl (lv_at hl 0 rfl) ?_
    refine lv_dup X.1 X.2.1 dX6_add_32 rfl ?_
    refine z_get X hK hP hiX6 0 rfl rfl 0 (by decide) (bw_in W5_10) rfl dX6_add_33 ?_
    refine lv_iconst (v := 1) X.1 X.2.1 dX6_add_36 (by decide) ?_
    refine lv_iadd X.1 X.2.1 dX6_add_37 ?_
    obtain ⟨v6, ev6, hf⟩ := stp_e hf
    refine z_put (ws' := wbX6 K aS v6) X hK hP hD hS hiX6 tyX6_ok nmX6 0 rfl rfl 0 (by decide) (bw_in W5_10) rfl rfl rfl (Nat.le_of_ble_eq_true rfl) dX6_add_38 (by rw [ev6]; rfl) (fun H locs hP hD hS => ?_)
    refine lv_iconst (v := 1) X.1 X.2.1 dX6_add_41 (by decide) ?_
    obtain ⟨rfl, rfl⟩ := z_inj2 hf
    exact z_zret X hr hlk (by decide) hP hD hS dX6_add_42
  · have hf := ite_f hf c1
    refine lv_iconst (v := 0) X.1 X.2.1 dX6_add_9 (by decide) ?_
    obtain ⟨rfl, rfl⟩ := z_inj2 hf
    exact z_zret X hr hlk (by decide) hP hD hS dX6_add_10
