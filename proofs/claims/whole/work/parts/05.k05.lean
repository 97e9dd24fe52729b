abbrev rmX9_notes : Room := { frames := 2, cells := 0, slots := 0, locals := 43 }
set_option maxHeartbeats 4000000 in
set_option maxRecDepth 100000 in
theorem kX9_notes (l : Launch) (D : va_G) (K : Nat → ClassId) (aM : Nat → Nat) (s0 : St) (sz : Nat)  (s_ : St) (hf : fX9_notes s0 = some s_) : Met l yX9_notes (bw (Cond.code yX9_notes cX9_notes 3 none)) rmX9_notes (va_Pc [.ref (aM 0)] (zB D K sz (wbX9 K aM s0))) (zQ (none) D (va_A (wbX9 K aM s0) sz) (wbX9 K aM s_)) 0 0 (va_A (wbX9 K aM s0) sz) := by
  refine z_of (cc := cX9_notes) (maxL := 3) (ret := none) (own := RX9) (lv := [(0, .ref (aM 0))]) (by decide) rfl rfl (Nat.le_of_ble_eq_true rfl) rfl ?_
  intro p e s m below meth c X hr hlk hK hN hsz hP hD hA hS hin ls hl
  generalize va_A (wbX9 K aM s0) sz = A at hD hA hS hN ⊢
  have hiX9 : ∀ w ∈ u_ws RX9 TX9 44, w ∈ (bw (Cond.code yX9_notes cX9_notes 3 none)) := fun w h => bw_in (inlX9 w h)
  have L139_1 : ∀ (n : Nat), ∀ (n139_0 : Int32) (n139_1 : Int32) (q139_M : St), fX9_notes_139 n n139_0 n139_1 q139_M = some s_ → ∀ (H : Heap) (locs : List Loc), va_P D vwCl (wbX9 K aM q139_M) H → va_D A (wbX9 K aM q139_M) → va_S A s.heap H locs → ∀ (ls : Array Slot), lv_has ls 3 [(0, .ref (aM 0)), (1, .int n139_0), (2, .int n139_1)] → W p l e rmX9_notes s m ([.ref (aM 0)] : List Value).toArray below meth c H locs 0 0 (MQ below (zQ (none) D A (wbX9 K aM s_)) ([.ref (aM 0)] : List Value).toArray s 0 0 A) (F0 m 139 ls []) := by
    intro n
    induction n with
    | zero =>
      intro n139_0 n139_1 q139_M hf
      rw [fX9_notes_139] at hf
      cases hf
    | succ n ih =>
      intro n139_0 n139_1 q139_M hf H locs hP hD hS ls hl
      rw [fX9_notes_139] at hf
      refine lv_iload_n X.1 X.2.1 dX9_notes_139 rfl (lv_at hl 2 rfl) ?_
      refine lv_aload_n X.1 X.2.1 dX9_notes_140 rfl (lv_at hl 0 rfl) ?_
      refine z_get X hK hP hiX9 0 rfl rfl 2 (by decide) (bw_in W10_12) rfl dX9_notes_141 ?_
      refine lv_icmp_ge (tgt := 178) X.1 X.2.1 dX9_notes_144 (by decide) (fun c12 => ?_) (fun c12 => ?_)
      · have hf := ite_t hf c12
        obtain rfl := z_inj1 hf
        exact z_vret X hr hlk hP hD hS dX9_notes_178
      · have hf := ite_f hf c12
        refine lv_aload_n X.1 X.2.1 dX9_notes_147 rfl (lv_at hl 0 rfl) ?_
        refine z_get X hK hP hiX9 0 rfl rfl 32 (by decide) (bw_in W7_9) rfl dX9_notes_148 ?_
        refine lv_iload_n X.1 X.2.1 dX9_notes_151 rfl (lv_at hl 2 rfl) ?_
        refine lv_dup2_11 X.1 X.2.1 dX9_notes_152 rfl rfl ?_
        obtain ⟨hi14, hf⟩ := chk_e hf
        obtain ⟨v13, ev13, hf⟩ := stp_e hf
        refine z_iald X hK hP 18 rfl hi14 ev13 dX9_notes_153 ?_
        refine lv_aload_n X.1 X.2.1 dX9_notes_154 rfl (lv_at hl 0 rfl) ?_
        refine z_get X hK hP hiX9 0 rfl rfl 18 (by decide) (bw_in W20_18) rfl dX9_notes_155 ?_
        refine lv_iload_n X.1 X.2.1 dX9_notes_158 rfl (lv_at hl 2 rfl) ?_
        obtain ⟨r15, hc16, hf⟩ := bd1_e hf
        refine z_S (n := 2) (As := [.int (q139_M 0 18), .int n139_1]) (rest := [.int v13, .int n139_1, .ref (aM 33)]) X hK hN (kX9_isIn l D K _ (q139_M 0 18) n139_1 r15 hc16) (bw_S W21_8 W21_9 W1_5 W21_10) rfl ⟨rfl, rfl⟩ (by decide +kernel) rfl ⟨Nat.le_of_ble_eq_true rfl, Nat.le_of_ble_eq_true rfl⟩ (fun _ _ h => by simp at h) ⟨fun _ _ _ _ h => by simp at h, fun _ _ h => by simp at h⟩ (zj_none hP hD hS hA) hS hl.1 rfl (Nat.le_of_ble_eq_true rfl) dX9_notes_159 ⟨Nat.zero_le _, Nat.zero_le _⟩ rfl (fun H locs hP hD hS => ?_)
        refine lv_if_eq (tgt := 169) X.1 X.2.1 dX9_notes_162 (by decide) (fun c17 => ?_) (fun c17 => ?_)
        · have hf := ite_t hf c17
          refine lv_iconst (v := 0) X.1 X.2.1 dX9_notes_169 (by decide) ?_
          refine lv_ior X.1 X.2.1 dX9_notes_170 ?_
          obtain ⟨hi18, hf⟩ := chk_e hf
          obtain ⟨s19, es19, hf⟩ := stp_e hf
          refine z_iast (ws' := wbX9 K aM s19) X hK hP hD hS 18 rfl hi18 dX9_notes_171 (by rw [es19]; rfl) (fun H locs hP hD hS => ?_)
          obtain ⟨w20, ew20, hf⟩ := stp_e hf
          refine lv_iinc (v := w20) (lv' := [(2, .int w20), (0, .ref (aM 0)), (1, .int n139_0)]) X.1 X.2.1 dX9_notes_172 hl (k := 2) rfl (by rw [ew20]; rfl) (by decide) rfl (fun ls hl => ?_)
          refine lv_goto (tgt := 139) X.1 X.2.1 dX9_notes_175 (by decide) ?_
          exact ih _ _ _ hf _ _ hP hD hS _ (lv_sub hl [1, 2, 0] rfl)
        · have hf := ite_f hf c17
          refine lv_iload_n X.1 X.2.1 dX9_notes_165 rfl (lv_at hl 1 rfl) ?_
          refine lv_goto (tgt := 170) X.1 X.2.1 dX9_notes_166 (by decide) ?_
          refine lv_ior X.1 X.2.1 dX9_notes_170 ?_
          obtain ⟨hi21, hf⟩ := chk_e hf
          obtain ⟨s22, es22, hf⟩ := stp_e hf
          refine z_iast (ws' := wbX9 K aM s22) X hK hP hD hS 18 rfl hi21 dX9_notes_171 (by rw [es22]; rfl) (fun H locs hP hD hS => ?_)
          obtain ⟨w23, ew23, hf⟩ := stp_e hf
          refine lv_iinc (v := w23) (lv' := [(2, .int w23), (0, .ref (aM 0)), (1, .int n139_0)]) X.1 X.2.1 dX9_notes_172 hl (k := 2) rfl (by rw [ew23]; rfl) (by decide) rfl (fun ls hl => ?_)
          refine lv_goto (tgt := 139) X.1 X.2.1 dX9_notes_175 (by decide) ?_
          exact ih _ _ _ hf _ _ hP hD hS _ (lv_sub hl [1, 2, 0] rfl)
  have L56_0 : ∀ (n : Nat), ∀ (n56_0 : Int32) (n56_1 : Int32) (q56_M : St), fX9_notes_56 n n56_0 n56_1 q56_M = some s_ → ∀ (H : Heap) (locs : List Loc), va_P D vwCl (wbX9 K aM q56_M) H → va_D A (wbX9 K aM q56_M) → va_S A s.heap H locs → ∀ (ls : Array Slot), lv_has ls 3 [(0, .ref (aM 0)), (1, .int n56_0), (2, .int n56_1)] → W p l e rmX9_notes s m ([.ref (aM 0)] : List Value).toArray below meth c H locs 0 0 (MQ below (zQ (none) D A (wbX9 K aM s_)) ([.ref (aM 0)] : List Value).toArray s 0 0 A) (F0 m 56 ls []) := by
    intro n
    induction n with
    | zero =>
      intro n56_0 n56_1 q56_M hf
      rw [fX9_notes_56] at hf
      cases hf
    | succ n ih =>
      intro n56_0 n56_1 q56_M hf H locs hP hD hS ls hl
      rw [fX9_notes_56] at hf
      refine lv_iload_n X.1 X.2.1 dX9_notes_56 rfl (lv_at hl 2 rfl) ?_
      refine lv_aload_n X.1 X.2.1 dX9_notes_57 rfl (lv_at hl 0 rfl) ?_
      refine z_get X hK hP hiX9 0 rfl rfl 2 (by decide) (bw_in W10_12) rfl dX9_notes_58 ?_
      refine lv_icmp_ge (tgt := 137) X.1 X.2.1 dX9_notes_61 (by decide) (fun c11 => ?_) (fun c11 => ?_)
      · have hf := ite_t hf c11
        refine lv_iconst (v := 0) X.1 X.2.1 dX9_notes_137 (by decide) ?_
        refine lv_istore_n (lv' := [(2, .int 0), (0, .ref (aM 0)), (1, .int n56_0)]) X.1 X.2.1 dX9_notes_138 rfl hl (by decide) rfl (fun ls hl => ?_)
        exact L139_1  _ _ _ _ hf _ _ hP hD hS _ (lv_sub hl [1, 2, 0] rfl)
      · have hf := ite_f hf c11
        refine lv_aload_n X.1 X.2.1 dX9_notes_64 rfl (lv_at hl 0 rfl) ?_
        refine z_get X hK hP hiX9 0 rfl rfl 31 (by decide) (bw_in W7_8) rfl dX9_notes_65 ?_
        refine lv_iload_n X.1 X.2.1 dX9_notes_68 rfl (lv_at hl 2 rfl) ?_
        refine lv_dup2_11 X.1 X.2.1 dX9_notes_69 rfl rfl ?_
        obtain ⟨hi25, hf⟩ := chk_e hf
        obtain ⟨v24, ev24, hf⟩ := stp_e hf
        refine z_iald X hK hP 17 rfl hi25 ev24 dX9_notes_70 ?_
        refine lv_aload_n X.1 X.2.1 dX9_notes_71 rfl (lv_at hl 0 rfl) ?_
        refine z_get X hK hP hiX9 0 rfl rfl 18 (by decide) (bw_in W20_18) rfl dX9_notes_72 ?_
        refine lv_iload_n X.1 X.2.1 dX9_notes_75 rfl (lv_at hl 2 rfl) ?_
        obtain ⟨r26, hc27, hf⟩ := bd1_e hf
        refine z_S (n := 2) (As := [.int (q56_M 0 18), .int n56_1]) (rest := [.int v24, .int n56_1, .ref (aM 32)]) X hK hN (kX9_isIn l D K _ (q56_M 0 18) n56_1 r26 hc27) (bw_S W21_8 W21_9 W1_5 W21_10) rfl ⟨rfl, rfl⟩ (by decide +kernel) rfl ⟨Nat.le_of_ble_eq_true rfl, Nat.le_of_ble_eq_true rfl⟩ (fun _ _ h => by simp at h) ⟨fun _ _ _ _ h => by simp at h, fun _ _ h => by simp at h⟩ (zj_none hP hD hS hA) hS hl.1 rfl (Nat.le_of_ble_eq_true rfl) dX9_notes_76 ⟨Nat.zero_le _, Nat.zero_le _⟩ rfl (fun H locs hP hD hS => ?_)
        refine lv_if_eq (tgt := 89) X.1 X.2.1 dX9_notes_79 (by decide) (fun c28 => ?_) (fun c28 => ?_)
        · have hf := ite_t hf c28
          refine lv_iconst (v := 0) X.1 X.2.1 dX9_notes_89 (by decide) ?_
          refine lv_ior X.1 X.2.1 dX9_notes_90 ?_
          obtain ⟨hi29, hf⟩ := chk_e hf
          obtain ⟨s30, es30, hf⟩ := stp_e hf
          refine z_iast (ws' := wbX9 K aM s30) X hK hP hD hS 17 rfl hi29 dX9_notes_91 (by rw [es30]; rfl) (fun H locs hP hD hS => ?_)
          refine lv_aload_n X.1 X.2.1 dX9_notes_92 rfl (lv_at hl 0 rfl) ?_
          refine z_get X hK hP hiX9 0 rfl rfl 32 (by decide) (bw_in W7_9) rfl dX9_notes_93 ?_
          refine lv_iload_n X.1 X.2.1 dX9_notes_96 rfl (lv_at hl 2 rfl) ?_
          refine lv_dup2_11 X.1 X.2.1 dX9_notes_97 rfl rfl ?_
          obtain ⟨hi32, hf⟩ := chk_e hf
          obtain ⟨v31, ev31, hf⟩ := stp_e hf
          refine z_iald X hK hP 18 rfl hi32 ev31 dX9_notes_98 ?_
          refine lv_aload_n X.1 X.2.1 dX9_notes_99 rfl (lv_at hl 0 rfl) ?_
          refine z_get X hK hP hiX9 0 rfl rfl 31 (by decide) (bw_in W7_8) rfl dX9_notes_100 ?_
          refine lv_iload_n X.1 X.2.1 dX9_notes_103 rfl (lv_at hl 2 rfl) ?_
          obtain ⟨hi34, hf⟩ := chk_e hf
          obtain ⟨v33, ev33, hf⟩ := stp_e hf
          refine z_iald X hK hP 17 rfl hi34 ev33 dX9_notes_104 ?_
          refine lv_ior X.1 X.2.1 dX9_notes_105 ?_
          obtain ⟨hi35, hf⟩ := chk_e hf
          obtain ⟨s36, es36, hf⟩ := stp_e hf
          refine z_iast (ws' := wbX9 K aM s36) X hK hP hD hS 18 rfl hi35 dX9_notes_106 (by rw [es36]; rfl) (fun H locs hP hD hS => ?_)
          refine lv_iload_n X.1 X.2.1 dX9_notes_107 rfl (lv_at hl 1 rfl) ?_
          refine lv_aload_n X.1 X.2.1 dX9_notes_108 rfl (lv_at hl 0 rfl) ?_
          refine z_get X hK hP hiX9 0 rfl rfl 18 (by decide) (bw_in W20_18) rfl dX9_notes_109 ?_
          refine lv_iload_n X.1 X.2.1 dX9_notes_112 rfl (lv_at hl 2 rfl) ?_
          obtain ⟨r37, hc38, hf⟩ := bd1_e hf
          refine z_S (n := 2) (As := [.int (s36 0 18), .int n56_1]) (rest := [.int n56_0]) X hK hN (kX9_isIn l D K _ (s36 0 18) n56_1 r37 hc38) (bw_S W21_8 W21_9 W1_5 W21_10) rfl ⟨rfl, rfl⟩ (by decide +kernel) rfl ⟨Nat.le_of_ble_eq_true rfl, Nat.le_of_ble_eq_true rfl⟩ (fun _ _ h => by simp at h) ⟨fun _ _ _ _ h => by simp at h, fun _ _ h => by simp at h⟩ (zj_none hP hD hS hA) hS hl.1 rfl (Nat.le_of_ble_eq_true rfl) dX9_notes_113 ⟨Nat.zero_le _, Nat.zero_le _⟩ rfl (fun H locs hP hD hS => ?_)
          refine lv_if_eq (tgt := 128) X.1 X.2.1 dX9_notes_116 (by decide) (fun c39 => ?_) (fun c39 => ?_)
          · have hf := ite_t hf c39
            refine lv_iconst (v := 0) X.1 X.2.1 dX9_notes_128 (by decide) ?_
            refine lv_ior X.1 X.2.1 dX9_notes_129 ?_
            obtain ⟨w40, ew40, hf⟩ := stp_e hf
            refine z_top ew40 ?_
            refine lv_istore_n (lv' := [(1, .int w40), (0, .ref (aM 0)), (2, .int n56_1)]) X.1 X.2.1 dX9_notes_130 rfl hl (by decide) rfl (fun ls hl => ?_)
            obtain ⟨w41, ew41, hf⟩ := stp_e hf
            refine lv_iinc (v := w41) (lv' := [(2, .int w41), (1, .int w40), (0, .ref (aM 0))]) X.1 X.2.1 dX9_notes_131 hl (k := 2) rfl (by rw [ew41]; rfl) (by decide) rfl (fun ls hl => ?_)
            refine lv_goto (tgt := 56) X.1 X.2.1 dX9_notes_134 (by decide) ?_
            exact ih _ _ _ hf _ _ hP hD hS _ (lv_sub hl [2, 1, 0] rfl)
          · have hf := ite_f hf c39
            refine lv_aload_n X.1 X.2.1 dX9_notes_119 rfl (lv_at hl 0 rfl) ?_
            refine z_get X hK hP hiX9 0 rfl rfl 32 (by decide) (bw_in W7_9) rfl dX9_notes_120 ?_
            refine lv_iload_n X.1 X.2.1 dX9_notes_123 rfl (lv_at hl 2 rfl) ?_
            obtain ⟨hi43, hf⟩ := chk_e hf
            obtain ⟨v42, ev42, hf⟩ := stp_e hf
            refine z_iald X hK hP 18 rfl hi43 ev42 dX9_notes_124 ?_
            refine lv_goto (tgt := 129) X.1 X.2.1 dX9_notes_125 (by decide) ?_
            refine lv_ior X.1 X.2.1 dX9_notes_129 ?_
            obtain ⟨w44, ew44, hf⟩ := stp_e hf
            refine z_top ew44 ?_
            refine lv_istore_n (lv' := [(1, .int w44), (0, .ref (aM 0)), (2, .int n56_1)]) X.1 X.2.1 dX9_notes_130 rfl hl (by decide) rfl (fun ls hl => ?_)
            obtain ⟨w45, ew45, hf⟩ := stp_e hf
            refine lv_iinc (v := w45) (lv' := [(2, .int w45), (1, .int w44), (0, .ref (aM 0))]) X.1 X.2.1 dX9_notes_131 hl (k := 2) rfl (by rw [ew45]; rfl) (by decide) rfl (fun ls hl => ?_)
            refine lv_goto (tgt := 56) X.1 X.2.1 dX9_notes_134 (by decide) ?_
            exact ih _ _ _ hf _ _ hP hD hS _ (lv_sub hl [2, 1, 0] rfl)
        · have hf := ite_f hf c28
          refine lv_aload_n X.1 X.2.1 dX9_notes_82 rfl (lv_at hl 0 rfl) ?_
          refine z_get X hK hP hiX9 0 rfl rfl 19 (by decide) (bw_in W20_19) rfl dX9_notes_83 ?_
          refine lv_goto (tgt := 90) X.1 X.2.1 dX9_notes_86 (by decide) ?_
          refine lv_ior X.1 X.2.1 dX9_notes_90 ?_
          obtain ⟨hi46, hf⟩ := chk_e hf
          obtain ⟨s47, es47, hf⟩ := stp_e hf
          refine z_iast (ws' := wbX9 K aM s47) X hK hP hD hS 17 rfl hi46 dX9_notes_91 (by rw [es47]; rfl) (fun H locs hP hD hS => ?_)
          refine lv_aload_n X.1 X.2.1 dX9_notes_92 rfl (lv_at hl 0 rfl) ?_
          refine z_get X hK hP hiX9 0 rfl rfl 32 (by decide) (bw_in W7_9) rfl dX9_notes_93 ?_
          refine lv_iload_n X.1 X.2.1 dX9_notes_96 rfl (lv_at hl 2 rfl) ?_
          refine lv_dup2_11 X.1 X.2.1 dX9_notes_97 rfl rfl ?_
          obtain ⟨hi49, hf⟩ := chk_e hf
          obtain ⟨v48, ev48, hf⟩ := stp_e hf
          refine z_iald X hK hP 18 rfl hi49 ev48 dX9_notes_98 ?_
          refine lv_aload_n X.1 X.2.1 dX9_notes_99 rfl (lv_at hl 0 rfl) ?_
          refine z_get X hK hP hiX9 0 rfl rfl 31 (by decide) (bw_in W7_8) rfl dX9_notes_100 ?_
          refine lv_iload_n X.1 X.2.1 dX9_notes_103 rfl (lv_at hl 2 rfl) ?_
          obtain ⟨hi51, hf⟩ := chk_e hf
          obtain ⟨v50, ev50, hf⟩ := stp_e hf
          refine z_iald X hK hP 17 rfl hi51 ev50 dX9_notes_104 ?_
          refine lv_ior X.1 X.2.1 dX9_notes_105 ?_
          obtain ⟨hi52, hf⟩ := chk_e hf
          obtain ⟨s53, es53, hf⟩ := stp_e hf
          refine z_iast (ws' := wbX9 K aM s53) X hK hP hD hS 18 rfl hi52 dX9_notes_106 (by rw [es53]; rfl) (fun H locs hP hD hS => ?_)
          refine lv_iload_n X.1 X.2.1 dX9_notes_107 rfl (lv_at hl 1 rfl) ?_
          refine lv_aload_n X.1 X.2.1 dX9_notes_108 rfl (lv_at hl 0 rfl) ?_
          refine z_get X hK hP hiX9 0 rfl rfl 18 (by decide) (bw_in W20_18) rfl dX9_notes_109 ?_
          refine lv_iload_n X.1 X.2.1 dX9_notes_112 rfl (lv_at hl 2 rfl) ?_
          obtain ⟨r54, hc55, hf⟩ := bd1_e hf
          refine z_S (n := 2) (As := [.int (s53 0 18), .int n56_1]) (rest := [.int n56_0]) X hK hN (kX9_isIn l D K _ (s53 0 18) n56_1 r54 hc55) (bw_S W21_8 W21_9 W1_5 W21_10) rfl ⟨rfl, rfl⟩ (by decide +kernel) rfl ⟨Nat.le_of_ble_eq_true rfl, Nat.le_of_ble_eq_true rfl⟩ (fun _ _ h => by simp at h) ⟨fun _ _ _ _ h => by simp at h, fun _ _ h => by simp at h⟩ (zj_none hP hD hS hA) hS hl.1 rfl (Nat.le_of_ble_eq_true rfl) dX9_notes_113 ⟨Nat.zero_le _, Nat.zero_le _⟩ rfl (fun H locs hP hD hS => ?_)
          refine lv_if_eq (tgt := 128) X.1 X.2.1 dX9_notes_116 (by decide) (fun c56 => ?_) (fun c56 => ?_)
          · have hf := ite_t hf c56
            refine lv_iconst (v := 0) X.1 X.2.1 dX9_notes_128 (by decide) ?_
            refine lv_ior X.1 X.2.1 dX9_notes_129 ?_
            obtain ⟨w57, ew57, hf⟩ := stp_e hf
            refine z_top ew57 ?_
            refine lv_istore_n (lv' := [(1, .int w57), (0, .ref (aM 0)), (2, .int n56_1)]) X.1 X.2.1 dX9_notes_130 rfl hl (by decide) rfl (fun ls hl => ?_)
            obtain ⟨w58, ew58, hf⟩ := stp_e hf
            refine lv_iinc (v := w58) (lv' := [(2, .int w58), (1, .int w57), (0, .ref (aM 0))]) X.1 X.2.1 dX9_notes_131 hl (k := 2) rfl (by rw [ew58]; rfl) (by decide) rfl (fun ls hl => ?_)
            refine lv_goto (tgt := 56) X.1 X.2.1 dX9_notes_134 (by decide) ?_
            exact ih _ _ _ hf _ _ hP hD hS _ (lv_sub hl [2, 1, 0] rfl)
          · have hf := ite_f hf c56
            refine lv_aload_n X.1 X.2.1 dX9_notes_119 rfl (lv_at hl 0 rfl) ?_
            refine z_get X hK hP hiX9 0 rfl rfl 32 (by decide) (bw_in W7_9) rfl dX9_notes_120 ?_
            refine lv_iload_n X.1 X.2.1 dX9_notes_123 rfl (lv_at hl 2 rfl) ?_
            obtain ⟨hi60, hf⟩ := chk_e hf
            obtain ⟨v59, ev59, hf⟩ := stp_e hf
            refine z_iald X hK hP 18 rfl hi60 ev59 dX9_notes_124 ?_
            refine lv_goto (tgt := 129) X.1 X.2.1 dX9_notes_125 (by decide) ?_
            refine lv_ior X.1 X.2.1 dX9_notes_129 ?_
            obtain ⟨w61, ew61, hf⟩ := stp_e hf
            refine z_top ew61 ?_
            refine lv_istore_n (lv' := [(1, .int w61), (0, .ref (aM 0)), (2, .int n56_1)]) X.1 X.2.1 dX9_notes_130 rfl hl (by decide) rfl (fun ls hl => ?_)
            obtain ⟨w62, ew62, hf⟩ := stp_e hf
            refine lv_iinc (v := w62) (lv' := [(2, .int w62), (1, .int w61), (0, .ref (aM 0))]) X.1 X.2.1 dX9_notes_131 hl (k := 2) rfl (by rw [ew62]; rfl) (by decide) rfl (fun ls hl => ?_)
            refine lv_goto (tgt := 56) X.1 X.2.1 dX9_notes_134 (by decide) ?_
            exact ih _ _ _ hf _ _ hP hD hS _ (lv_sub hl [2, 1, 0] rfl)
  rw [fX9_notes] at hf
  refine lv_aload_n X.1 X.2.1 dX9_notes_0 rfl (lv_at hl 0 rfl) ?_
  refine z_get X hK hP hiX9 0 rfl rfl 22 (by decide) (bw_in W7_1) rfl dX9_notes_1 ?_
  refine lv_aload_n X.1 X.2.1 dX9_notes_4 rfl (lv_at hl 0 rfl) ?_
  refine z_get X hK hP hiX9 0 rfl rfl 16 (by decide) (bw_in W19_22) rfl dX9_notes_5 ?_
  refine lv_aload_n X.1 X.2.1 dX9_notes_8 rfl (lv_at hl 0 rfl) ?_
  refine z_get X hK hP hiX9 0 rfl rfl 17 (by decide) (bw_in W20_13) rfl dX9_notes_9 ?_
  obtain ⟨hi1, hf⟩ := chk_e hf
  obtain ⟨s2, es2, hf⟩ := stp_e hf
  refine z_iast (ws' := wbX9 K aM s2) X hK hP hD hS 10 rfl hi1 dX9_notes_12 (by rw [es2]; rfl) (fun H locs hP hD hS => ?_)
  refine lv_aload_n X.1 X.2.1 dX9_notes_13 rfl (lv_at hl 0 rfl) ?_
  refine z_get X hK hP hiX9 0 rfl rfl 23 (by decide) (bw_in W7_2) rfl dX9_notes_14 ?_
  refine lv_aload_n X.1 X.2.1 dX9_notes_17 rfl (lv_at hl 0 rfl) ?_
  refine z_get X hK hP hiX9 0 rfl rfl 16 (by decide) (bw_in W19_22) rfl dX9_notes_18 ?_
  refine lv_aload_n X.1 X.2.1 dX9_notes_21 rfl (lv_at hl 0 rfl) ?_
  obtain ⟨r3, hc4, hf⟩ := bd1_e hf
  refine z_V (n := 0) (As := []) (rest := [.int (s2 0 16), .ref (aM 24)]) (ci := 9) (q0 := 0) X hK hN (kX9_load l D K aM s2 _ r3 hc4) (bw_V W21_4 W21_5 W21_6 W1_5 W21_7) rfl ⟨rfl, rfl⟩ (by decide +kernel) rfl ⟨Nat.le_of_ble_eq_true rfl, Nat.le_of_ble_eq_true rfl⟩ hP hD rfl rfl (zj_same hD hS hA) hS hl.1 rfl (Nat.le_of_ble_eq_true rfl) dX9_notes_22 ⟨Nat.zero_le _, Nat.zero_le _⟩ rfl (fun H locs hP hD hS => ?_)
  obtain ⟨hi5, hf⟩ := chk_e hf
  obtain ⟨s6, es6, hf⟩ := stp_e hf
  refine z_iast (ws' := wbX9 K aM s6) X hK hP hD hS 11 rfl hi5 dX9_notes_25 (by rw [es6]; rfl) (fun H locs hP hD hS => ?_)
  refine lv_aload_n X.1 X.2.1 dX9_notes_26 rfl (lv_at hl 0 rfl) ?_
  refine z_get X hK hP hiX9 0 rfl rfl 24 (by decide) (bw_in W7_3) rfl dX9_notes_27 ?_
  refine lv_aload_n X.1 X.2.1 dX9_notes_30 rfl (lv_at hl 0 rfl) ?_
  refine z_get X hK hP hiX9 0 rfl rfl 16 (by decide) (bw_in W19_22) rfl dX9_notes_31 ?_
  refine lv_aload_n X.1 X.2.1 dX9_notes_34 rfl (lv_at hl 0 rfl) ?_
  refine z_get X hK hP hiX9 0 rfl rfl 18 (by decide) (bw_in W20_18) rfl dX9_notes_35 ?_
  obtain ⟨hi7, hf⟩ := chk_e hf
  obtain ⟨s8, es8, hf⟩ := stp_e hf
  refine z_iast (ws' := wbX9 K aM s8) X hK hP hD hS 12 rfl hi7 dX9_notes_38 (by rw [es8]; rfl) (fun H locs hP hD hS => ?_)
  refine lv_aload_n X.1 X.2.1 dX9_notes_39 rfl (lv_at hl 0 rfl) ?_
  refine z_get X hK hP hiX9 0 rfl rfl 25 (by decide) (bw_in W7_4) rfl dX9_notes_40 ?_
  refine lv_aload_n X.1 X.2.1 dX9_notes_43 rfl (lv_at hl 0 rfl) ?_
  refine z_get X hK hP hiX9 0 rfl rfl 16 (by decide) (bw_in W19_22) rfl dX9_notes_44 ?_
  refine lv_aload_n X.1 X.2.1 dX9_notes_47 rfl (lv_at hl 0 rfl) ?_
  refine z_get X hK hP hiX9 0 rfl rfl 19 (by decide) (bw_in W20_19) rfl dX9_notes_48 ?_
  obtain ⟨hi9, hf⟩ := chk_e hf
  obtain ⟨s10, es10, hf⟩ := stp_e hf
  refine z_iast (ws' := wbX9 K aM s10) X hK hP hD hS 13 rfl hi9 dX9_notes_51 (by rw [es10]; rfl) (fun H locs hP hD hS => ?_)
  refine lv_iconst (v := 0) X.1 X.2.1 dX9_notes_52 (by decide) ?_
  refine lv_istore_n (lv' := [(1, .int 0), (0, .ref (aM 0))]) X.1 X.2.1 dX9_notes_53 rfl hl (by decide) rfl (fun ls hl => ?_)
  refine lv_iconst (v := 0) X.1 X.2.1 dX9_notes_54 (by decide) ?_
  refine lv_istore_n (lv' := [(2, .int 0), (1, .int 0), (0, .ref (aM 0))]) X.1 X.2.1 dX9_notes_55 rfl hl (by decide) rfl (fun ls hl => ?_)
  exact L56_0  _ _ _ _ hf _ _ hP hD hS _ (lv_sub hl [2, 1, 0] rfl)
abbrev rmX9_begins : Room := { frames := 3, cells := 0, slots := 0, locals := 65 }
set_option maxHeartbeats 4000000 in
set_option maxRecDepth 100000 in
theorem kX9_begins (l : Launch) (D : va_G) (K : Nat → ClassId) (aM : Nat → Nat) (s0 : St) (sz : Nat)  (s_ : St) (hf : fX9_begins s0 = some s_) : Met l yX9_begins (bw (Cond.code yX9_begins cX9_begins 2 none)) rmX9_begins (va_Pc [.ref (aM 0)] (zB D K sz (wbX9 K aM s0))) (zQ (none) D (va_A (wbX9 K aM s0) sz) (wbX9 K aM s_)) 0 0 (va_A (wbX9 K aM s0) sz) := by
  refine z_of (cc := cX9_begins) (maxL := 2) (ret := none) (own := RX9) (lv := [(0, .ref (aM 0))]) (by decide) rfl rfl (Nat.le_of_ble_eq_true rfl) rfl ?_
  intro p e s m below meth c X hr hlk hK hN hsz hP hD hA hS hin ls hl
  generalize va_A (wbX9 K aM s0) sz = A at hD hA hS hN ⊢
  have hiX9 : ∀ w ∈ u_ws RX9 TX9 44, w ∈ (bw (Cond.code yX9_begins cX9_begins 2 none)) := fun w h => bw_in (inlX9 w h)
  have L42_0 : ∀ (n : Nat), ∀ (n42_0 : Int32) (q42_M : St), fX9_begins_42 n n42_0 q42_M = some s_ → ∀ (H : Heap) (locs : List Loc), va_P D vwCl (wbX9 K aM q42_M) H → va_D A (wbX9 K aM q42_M) → va_S A s.heap H locs → ∀ (ls : Array Slot), lv_has ls 2 [(0, .ref (aM 0)), (1, .int n42_0)] → W p l e rmX9_begins s m ([.ref (aM 0)] : List Value).toArray below meth c H locs 0 0 (MQ below (zQ (none) D A (wbX9 K aM s_)) ([.ref (aM 0)] : List Value).toArray s 0 0 A) (F0 m 42 ls []) := by
    intro n
    induction n with
    | zero =>
      intro n42_0 q42_M hf
      rw [fX9_begins_42] at hf
      cases hf
    | succ n ih =>
      intro n42_0 q42_M hf H locs hP hD hS ls hl
      rw [fX9_begins_42] at hf
      refine lv_iload_n X.1 X.2.1 dX9_begins_42 rfl (lv_at hl 1 rfl) ?_
      refine lv_bipush (v := 8) X.1 X.2.1 dX9_begins_43 (by decide) ?_
      refine lv_icmp_ge (tgt := 116) X.1 X.2.1 dX9_begins_45 (by decide) (fun c9 => ?_) (fun c9 => ?_)
      · have hf := ite_t hf c9
        refine lv_aload_n X.1 X.2.1 dX9_begins_116 rfl (lv_at hl 0 rfl) ?_
        obtain ⟨s10, hc11, hf⟩ := bd1_e hf
        refine z_V (n := 0) (As := []) (rest := []) (ci := 9) (q0 := 0) X hK hN (kX9_notes l D K aM q42_M _ s10 hc11) (bw_V W21_0 W21_1 W21_2 W1_5 W21_3) rfl ⟨rfl, rfl⟩ (by decide +kernel) rfl ⟨Nat.le_of_ble_eq_true rfl, Nat.le_of_ble_eq_true rfl⟩ hP hD rfl rfl (zj_same hD hS hA) hS hl.1 rfl (Nat.le_of_ble_eq_true rfl) dX9_begins_117 ⟨Nat.zero_le _, Nat.zero_le _⟩ rfl (fun H locs hP hD hS => ?_)
        obtain rfl := z_inj1 hf
        exact z_vret X hr hlk hP hD hS dX9_begins_120
      · have hf := ite_f hf c9
        refine lv_aload_n X.1 X.2.1 dX9_begins_48 rfl (lv_at hl 0 rfl) ?_
        refine z_get X hK hP hiX9 0 rfl rfl 26 (by decide) (bw_in W7_5) rfl dX9_begins_49 ?_
        refine lv_iload_n X.1 X.2.1 dX9_begins_52 rfl (lv_at hl 1 rfl) ?_
        refine lv_iconst (v := -1) X.1 X.2.1 dX9_begins_53 (by decide) ?_
        obtain ⟨hi12, hf⟩ := chk_e hf
        obtain ⟨s13, es13, hf⟩ := stp_e hf
        refine z_iast (ws' := wbX9 K aM s13) X hK hP hD hS 14 rfl hi12 dX9_begins_54 (by rw [es13]; rfl) (fun H locs hP hD hS => ?_)
        refine lv_aload_n X.1 X.2.1 dX9_begins_55 rfl (lv_at hl 0 rfl) ?_
        refine z_get X hK hP hiX9 0 rfl rfl 27 (by decide) (bw_in W7_6) rfl dX9_begins_56 ?_
        refine lv_iload_n X.1 X.2.1 dX9_begins_59 rfl (lv_at hl 1 rfl) ?_
        refine lv_iload_n X.1 X.2.1 dX9_begins_60 rfl (lv_at hl 1 rfl) ?_
        refine lv_aload_n X.1 X.2.1 dX9_begins_61 rfl (lv_at hl 0 rfl) ?_
        refine z_get X hK hP hiX9 0 rfl rfl 2 (by decide) (bw_in W10_12) rfl dX9_begins_62 ?_
        refine lv_icmp_ge (tgt := 87) X.1 X.2.1 dX9_begins_65 (by decide) (fun c14 => ?_) (fun c14 => ?_)
        · have hf := ite_t hf c14
          refine lv_iconst (v := -1) X.1 X.2.1 dX9_begins_87 (by decide) ?_
          obtain ⟨hi15, hf⟩ := chk_e hf
          obtain ⟨s16, es16, hf⟩ := stp_e hf
          refine z_iast (ws' := wbX9 K aM s16) X hK hP hD hS 15 rfl hi15 dX9_begins_88 (by rw [es16]; rfl) (fun H locs hP hD hS => ?_)
          refine lv_aload_n X.1 X.2.1 dX9_begins_89 rfl (lv_at hl 0 rfl) ?_
          refine z_get X hK hP hiX9 0 rfl rfl 28 (by decide) (bw_in W7_7) rfl dX9_begins_90 ?_
          refine lv_iload_n X.1 X.2.1 dX9_begins_93 rfl (lv_at hl 1 rfl) ?_
          refine lv_iconst (v := 0) X.1 X.2.1 dX9_begins_94 (by decide) ?_
          obtain ⟨hi17, hf⟩ := chk_e hf
          obtain ⟨s18, es18, hf⟩ := stp_e hf
          refine z_iast (ws' := wbX9 K aM s18) X hK hP hD hS 16 rfl hi17 dX9_begins_95 (by rw [es18]; rfl) (fun H locs hP hD hS => ?_)
          refine lv_aload_n X.1 X.2.1 dX9_begins_96 rfl (lv_at hl 0 rfl) ?_
          refine z_get X hK hP hiX9 0 rfl rfl 31 (by decide) (bw_in W7_8) rfl dX9_begins_97 ?_
          refine lv_iload_n X.1 X.2.1 dX9_begins_100 rfl (lv_at hl 1 rfl) ?_
          refine lv_iconst (v := 0) X.1 X.2.1 dX9_begins_101 (by decide) ?_
          obtain ⟨hi19, hf⟩ := chk_e hf
          obtain ⟨s20, es20, hf⟩ := stp_e hf
          refine z_iast (ws' := wbX9 K aM s20) X hK hP hD hS 17 rfl hi19 dX9_begins_102 (by rw [es20]; rfl) (fun H locs hP hD hS => ?_)
          refine lv_aload_n X.1 X.2.1 dX9_begins_103 rfl (lv_at hl 0 rfl) ?_
          refine z_get X hK hP hiX9 0 rfl rfl 32 (by decide) (bw_in W7_9) rfl dX9_begins_104 ?_
          refine lv_iload_n X.1 X.2.1 dX9_begins_107 rfl (lv_at hl 1 rfl) ?_
          refine lv_iconst (v := 0) X.1 X.2.1 dX9_begins_108 (by decide) ?_
          obtain ⟨hi21, hf⟩ := chk_e hf
          obtain ⟨s22, es22, hf⟩ := stp_e hf
          refine z_iast (ws' := wbX9 K aM s22) X hK hP hD hS 18 rfl hi21 dX9_begins_109 (by rw [es22]; rfl) (fun H locs hP hD hS => ?_)
          obtain ⟨w23, ew23, hf⟩ := stp_e hf
          refine lv_iinc (v := w23) (lv' := [(1, .int w23), (0, .ref (aM 0))]) X.1 X.2.1 dX9_begins_110 hl (k := 1) rfl (by rw [ew23]; rfl) (by decide) rfl (fun ls hl => ?_)
          refine lv_goto (tgt := 42) X.1 X.2.1 dX9_begins_113 (by decide) ?_
          exact ih _ _ hf _ _ hP hD hS _ (lv_sub hl [1, 0] rfl)
        · have hf := ite_f hf c14
          refine lv_aload_n X.1 X.2.1 dX9_begins_68 rfl (lv_at hl 0 rfl) ?_
          refine z_get X hK hP hiX9 0 rfl rfl 4 (by decide) (bw_in W6_19) rfl dX9_begins_69 ?_
          refine lv_iload_n X.1 X.2.1 dX9_begins_72 rfl (lv_at hl 1 rfl) ?_
          obtain ⟨hi25, hf⟩ := chk_e hf
          obtain ⟨v24, ev24, hf⟩ := stp_e hf
          refine z_iald X hK hP 4 rfl hi25 ev24 dX9_begins_73 ?_
          refine lv_aload_n X.1 X.2.1 dX9_begins_74 rfl (lv_at hl 0 rfl) ?_
          refine z_get X hK hP hiX9 0 rfl rfl 5 (by decide) (bw_in W6_20) rfl dX9_begins_75 ?_
          refine lv_iload_n X.1 X.2.1 dX9_begins_78 rfl (lv_at hl 1 rfl) ?_
          obtain ⟨hi27, hf⟩ := chk_e hf
          obtain ⟨v26, ev26, hf⟩ := stp_e hf
          refine z_iald X hK hP 5 rfl hi27 ev26 dX9_begins_79 ?_
          refine lv_icmp_ne (tgt := 87) X.1 X.2.1 dX9_begins_80 (by decide) (fun c28 => ?_) (fun c28 => ?_)
          · have hf := ite_f hf c28
            refine lv_iconst (v := -1) X.1 X.2.1 dX9_begins_87 (by decide) ?_
            obtain ⟨hi29, hf⟩ := chk_e hf
            obtain ⟨s30, es30, hf⟩ := stp_e hf
            refine z_iast (ws' := wbX9 K aM s30) X hK hP hD hS 15 rfl hi29 dX9_begins_88 (by rw [es30]; rfl) (fun H locs hP hD hS => ?_)
            refine lv_aload_n X.1 X.2.1 dX9_begins_89 rfl (lv_at hl 0 rfl) ?_
            refine z_get X hK hP hiX9 0 rfl rfl 28 (by decide) (bw_in W7_7) rfl dX9_begins_90 ?_
            refine lv_iload_n X.1 X.2.1 dX9_begins_93 rfl (lv_at hl 1 rfl) ?_
            refine lv_iconst (v := 0) X.1 X.2.1 dX9_begins_94 (by decide) ?_
            obtain ⟨hi31, hf⟩ := chk_e hf
            obtain ⟨s32, es32, hf⟩ := stp_e hf
            refine z_iast (ws' := wbX9 K aM s32) X hK hP hD hS 16 rfl hi31 dX9_begins_95 (by rw [es32]; rfl) (fun H locs hP hD hS => ?_)
            refine lv_aload_n X.1 X.2.1 dX9_begins_96 rfl (lv_at hl 0 rfl) ?_
            refine z_get X hK hP hiX9 0 rfl rfl 31 (by decide) (bw_in W7_8) rfl dX9_begins_97 ?_
            refine lv_iload_n X.1 X.2.1 dX9_begins_100 rfl (lv_at hl 1 rfl) ?_
            refine lv_iconst (v := 0) X.1 X.2.1 dX9_begins_101 (by decide) ?_
            obtain ⟨hi33, hf⟩ := chk_e hf
            obtain ⟨s34, es34, hf⟩ := stp_e hf
            refine z_iast (ws' := wbX9 K aM s34) X hK hP hD hS 17 rfl hi33 dX9_begins_102 (by rw [es34]; rfl) (fun H locs hP hD hS => ?_)
            refine lv_aload_n X.1 X.2.1 dX9_begins_103 rfl (lv_at hl 0 rfl) ?_
            refine z_get X hK hP hiX9 0 rfl rfl 32 (by decide) (bw_in W7_9) rfl dX9_begins_104 ?_
            refine lv_iload_n X.1 X.2.1 dX9_begins_107 rfl (lv_at hl 1 rfl) ?_
            refine lv_iconst (v := 0) X.1 X.2.1 dX9_begins_108 (by decide) ?_
            obtain ⟨hi35, hf⟩ := chk_e hf
            obtain ⟨s36, es36, hf⟩ := stp_e hf
            refine z_iast (ws' := wbX9 K aM s36) X hK hP hD hS 18 rfl hi35 dX9_begins_109 (by rw [es36]; rfl) (fun H locs hP hD hS => ?_)
            obtain ⟨w37, ew37, hf⟩ := stp_e hf
            refine lv_iinc (v := w37) (lv' := [(1, .int w37), (0, .ref (aM 0))]) X.1 X.2.1 dX9_begins_110 hl (k := 1) rfl (by rw [ew37]; rfl) (by decide) rfl (fun ls hl => ?_)
            refine lv_goto (tgt := 42) X.1 X.2.1 dX9_begins_113 (by decide) ?_
            exact ih _ _ hf _ _ hP hD hS _ (lv_sub hl [1, 0] rfl)
          · have hf := ite_t hf c28
            refine lv_iconst (v := 0) X.1 X.2.1 dX9_begins_83 (by decide) ?_
            refine lv_goto (tgt := 88) X.1 X.2.1 dX9_begins_84 (by decide) ?_
            obtain ⟨hi38, hf⟩ := chk_e hf
            obtain ⟨s39, es39, hf⟩ := stp_e hf
            refine z_iast (ws' := wbX9 K aM s39) X hK hP hD hS 15 rfl hi38 dX9_begins_88 (by rw [es39]; rfl) (fun H locs hP hD hS => ?_)
            refine lv_aload_n X.1 X.2.1 dX9_begins_89 rfl (lv_at hl 0 rfl) ?_
            refine z_get X hK hP hiX9 0 rfl rfl 28 (by decide) (bw_in W7_7) rfl dX9_begins_90 ?_
            refine lv_iload_n X.1 X.2.1 dX9_begins_93 rfl (lv_at hl 1 rfl) ?_
            refine lv_iconst (v := 0) X.1 X.2.1 dX9_begins_94 (by decide) ?_
            obtain ⟨hi40, hf⟩ := chk_e hf
            obtain ⟨s41, es41, hf⟩ := stp_e hf
            refine z_iast (ws' := wbX9 K aM s41) X hK hP hD hS 16 rfl hi40 dX9_begins_95 (by rw [es41]; rfl) (fun H locs hP hD hS => ?_)
            refine lv_aload_n X.1 X.2.1 dX9_begins_96 rfl (lv_at hl 0 rfl) ?_
            refine z_get X hK hP hiX9 0 rfl rfl 31 (by decide) (bw_in W7_8) rfl dX9_begins_97 ?_
            refine lv_iload_n X.1 X.2.1 dX9_begins_100 rfl (lv_at hl 1 rfl) ?_
            refine lv_iconst (v := 0) X.1 X.2.1 dX9_begins_101 (by decide) ?_
            obtain ⟨hi42, hf⟩ := chk_e hf
            obtain ⟨s43, es43, hf⟩ := stp_e hf
            refine z_iast (ws' := wbX9 K aM s43) X hK hP hD hS 17 rfl hi42 dX9_begins_102 (by rw [es43]; rfl) (fun H locs hP hD hS => ?_)
            refine lv_aload_n X.1 X.2.1 dX9_begins_103 rfl (lv_at hl 0 rfl) ?_
            refine z_get X hK hP hiX9 0 rfl rfl 32 (by decide) (bw_in W7_9) rfl dX9_begins_104 ?_
            refine lv_iload_n X.1 X.2.1 dX9_begins_107 rfl (lv_at hl 1 rfl) ?_
            refine lv_iconst (v := 0) X.1 X.2.1 dX9_begins_108 (by decide) ?_
            obtain ⟨hi44, hf⟩ := chk_e hf
            obtain ⟨s45, es45, hf⟩ := stp_e hf
            refine z_iast (ws' := wbX9 K aM s45) X hK hP hD hS 18 rfl hi44 dX9_begins_109 (by rw [es45]; rfl) (fun H locs hP hD hS => ?_)
            obtain ⟨w46, ew46, hf⟩ := stp_e hf
            refine lv_iinc (v := w46) (lv' := [(1, .int w46), (0, .ref (aM 0))]) X.1 X.2.1 dX9_begins_110 hl (k := 1) rfl (by rw [ew46]; rfl) (by decide) rfl (fun ls hl => ?_)
            refine lv_goto (tgt := 42) X.1 X.2.1 dX9_begins_113 (by decide) ?_
            exact ih _ _ hf _ _ hP hD hS _ (lv_sub hl [1, 0] rfl)
  rw [fX9_begins] at hf
  refine lv_aload_n X.1 X.2.1 dX9_begins_0 rfl (lv_at hl 0 rfl) ?_
  refine lv_iconst (v := 0) X.1 X.2.1 dX9_begins_1 (by decide) ?_
  obtain ⟨s1, es1, hf⟩ := stp_e hf
  refine z_put (ws' := wbX9 K aM s1) X hK hP hD hS hiX9 tyX9_ok nmX9 0 rfl rfl 16 (by decide) (bw_in W19_22) rfl rfl rfl (Nat.le_of_ble_eq_true rfl) dX9_begins_2 (by rw [es1]; rfl) (fun H locs hP hD hS => ?_)
  refine lv_aload_n X.1 X.2.1 dX9_begins_5 rfl (lv_at hl 0 rfl) ?_
  refine lv_iconst (v := 0) X.1 X.2.1 dX9_begins_6 (by decide) ?_
  obtain ⟨s2, es2, hf⟩ := stp_e hf
  refine z_put (ws' := wbX9 K aM s2) X hK hP hD hS hiX9 tyX9_ok nmX9 0 rfl rfl 17 (by decide) (bw_in W20_13) rfl rfl rfl (Nat.le_of_ble_eq_true rfl) dX9_begins_7 (by rw [es2]; rfl) (fun H locs hP hD hS => ?_)
  refine lv_aload_n X.1 X.2.1 dX9_begins_10 rfl (lv_at hl 0 rfl) ?_
  refine lv_iconst (v := 0) X.1 X.2.1 dX9_begins_11 (by decide) ?_
  obtain ⟨s3, es3, hf⟩ := stp_e hf
  refine z_put (ws' := wbX9 K aM s3) X hK hP hD hS hiX9 tyX9_ok nmX9 0 rfl rfl 18 (by decide) (bw_in W20_18) rfl rfl rfl (Nat.le_of_ble_eq_true rfl) dX9_begins_12 (by rw [es3]; rfl) (fun H locs hP hD hS => ?_)
  refine lv_aload_n X.1 X.2.1 dX9_begins_15 rfl (lv_at hl 0 rfl) ?_
  refine lv_iconst (v := 0) X.1 X.2.1 dX9_begins_16 (by decide) ?_
  obtain ⟨s4, es4, hf⟩ := stp_e hf
  refine z_put (ws' := wbX9 K aM s4) X hK hP hD hS hiX9 tyX9_ok nmX9 0 rfl rfl 19 (by decide) (bw_in W20_19) rfl rfl rfl (Nat.le_of_ble_eq_true rfl) dX9_begins_17 (by rw [es4]; rfl) (fun H locs hP hD hS => ?_)
  refine lv_aload_n X.1 X.2.1 dX9_begins_20 rfl (lv_at hl 0 rfl) ?_
  refine lv_iconst (v := 0) X.1 X.2.1 dX9_begins_21 (by decide) ?_
  obtain ⟨s5, es5, hf⟩ := stp_e hf
  refine z_put (ws' := wbX9 K aM s5) X hK hP hD hS hiX9 tyX9_ok nmX9 0 rfl rfl 20 (by decide) (bw_in W20_20) rfl rfl rfl (Nat.le_of_ble_eq_true rfl) dX9_begins_22 (by rw [es5]; rfl) (fun H locs hP hD hS => ?_)
  refine lv_aload_n X.1 X.2.1 dX9_begins_25 rfl (lv_at hl 0 rfl) ?_
  refine lv_iconst (v := 0) X.1 X.2.1 dX9_begins_26 (by decide) ?_
  obtain ⟨s6, es6, hf⟩ := stp_e hf
  refine z_put (ws' := wbX9 K aM s6) X hK hP hD hS hiX9 tyX9_ok nmX9 0 rfl rfl 21 (by decide) (bw_in W20_21) rfl rfl rfl (Nat.le_of_ble_eq_true rfl) dX9_begins_27 (by rw [es6]; rfl) (fun H locs hP hD hS => ?_)
  refine lv_aload_n X.1 X.2.1 dX9_begins_30 rfl (lv_at hl 0 rfl) ?_
  refine lv_iconst (v := -1) X.1 X.2.1 dX9_begins_31 (by decide) ?_
  obtain ⟨s7, es7, hf⟩ := stp_e hf
  refine z_put (ws' := wbX9 K aM s7) X hK hP hD hS hiX9 tyX9_ok nmX9 0 rfl rfl 29 (by decide) (bw_in W20_22) rfl rfl rfl (Nat.le_of_ble_eq_true rfl) dX9_begins_32 (by rw [es7]; rfl) (fun H locs hP hD hS => ?_)
  refine lv_aload_n X.1 X.2.1 dX9_begins_35 rfl (lv_at hl 0 rfl) ?_
  refine lv_iconst (v := -1) X.1 X.2.1 dX9_begins_36 (by decide) ?_
  obtain ⟨s8, es8, hf⟩ := stp_e hf
  refine z_put (ws' := wbX9 K aM s8) X hK hP hD hS hiX9 tyX9_ok nmX9 0 rfl rfl 30 (by decide) (bw_in W20_23) rfl rfl rfl (Nat.le_of_ble_eq_true rfl) dX9_begins_37 (by rw [es8]; rfl) (fun H locs hP hD hS => ?_)
  refine lv_iconst (v := 0) X.1 X.2.1 dX9_begins_40 (by decide) ?_
  refine lv_istore_n (lv' := [(1, .int 0), (0, .ref (aM 0))]) X.1 X.2.1 dX9_begins_41 rfl hl (by decide) rfl (fun ls hl => ?_)
  exact L42_0  _ _ _ hf _ _ hP hD hS _ (lv_sub hl [1, 0] rfl)
abbrev rmX9_haltsAt : Room := { frames := 3, cells := 0, slots := 0, locals := 65 }
set_option maxHeartbeats 4000000 in
set_option maxRecDepth 100000 in
theorem kX9_haltsAt (l : Launch) (D : va_G) (K : Nat → ClassId) (aM : Nat → Nat) (s0 : St) (sz : Nat) (x1 : Int32) (s_ : St) (hf : fX9_haltsAt s0 x1 = some s_) : Met l yX9_haltsAt (bw (Cond.code yX9_haltsAt cX9_haltsAt 3 none)) rmX9_haltsAt (va_Pc [.ref (aM 0), .int x1] (zB D K sz (wbX9 K aM s0))) (zQ (none) D (va_A (wbX9 K aM s0) sz) (wbX9 K aM s_)) 0 0 (va_A (wbX9 K aM s0) sz) := by
  refine z_of (cc := cX9_haltsAt) (maxL := 3) (ret := none) (own := RX9) (lv := [(0, .ref (aM 0)), (1, .int x1)]) (by decide) rfl rfl (Nat.le_of_ble_eq_true rfl) rfl ?_
  intro p e s m below meth c X hr hlk hK hN hsz hP hD hA hS hin ls hl
  generalize va_A (wbX9 K aM s0) sz = A at hD hA hS hN ⊢
  have hiX9 : ∀ w ∈ u_ws RX9 TX9 44, w ∈ (bw (Cond.code yX9_haltsAt cX9_haltsAt 3 none)) := fun w h => bw_in (inlX9 w h)
  have L96_1 : ∀ (n : Nat), ∀ (n96_0 : Int32) (n96_1 : Int32) (q96_M : St), fX9_haltsAt_96 n n96_0 n96_1 q96_M = some s_ → ∀ (H : Heap) (locs : List Loc), va_P D vwCl (wbX9 K aM q96_M) H → va_D A (wbX9 K aM q96_M) → va_S A s.heap H locs → ∀ (ls : Array Slot), lv_has ls 3 [(0, .ref (aM 0)), (1, .int n96_0), (2, .int n96_1)] → W p l e rmX9_haltsAt s m ([.ref (aM 0), .int x1] : List Value).toArray below meth c H locs 0 0 (MQ below (zQ (none) D A (wbX9 K aM s_)) ([.ref (aM 0), .int x1] : List Value).toArray s 0 0 A) (F0 m 96 ls []) := by
    intro n
    induction n with
    | zero =>
      intro n96_0 n96_1 q96_M hf
      rw [fX9_haltsAt_96] at hf
      cases hf
    | succ n ih =>
      intro n96_0 n96_1 q96_M hf H locs hP hD hS ls hl
      rw [fX9_haltsAt_96] at hf
      refine lv_iload_n X.1 X.2.1 dX9_haltsAt_96 rfl (lv_at hl 2 rfl) ?_
      refine lv_aload_n X.1 X.2.1 dX9_haltsAt_97 rfl (lv_at hl 0 rfl) ?_
      refine z_get X hK hP hiX9 0 rfl rfl 2 (by decide) (bw_in W10_12) rfl dX9_haltsAt_98 ?_
      refine lv_icmp_ge (tgt := 249) X.1 X.2.1 dX9_haltsAt_101 (by decide) (fun c6 => ?_) (fun c6 => ?_)
      · have hf := ite_t hf c6
        refine lv_aload_n X.1 X.2.1 dX9_haltsAt_249 rfl (lv_at hl 0 rfl) ?_
        obtain ⟨s7, hc8, hf⟩ := bd1_e hf
        refine z_V (n := 0) (As := []) (rest := []) (ci := 9) (q0 := 0) X hK hN (kX9_notes l D K aM q96_M _ s7 hc8) (bw_V W21_0 W21_1 W21_2 W1_5 W21_3) rfl ⟨rfl, rfl⟩ (by decide +kernel) rfl ⟨Nat.le_of_ble_eq_true rfl, Nat.le_of_ble_eq_true rfl⟩ hP hD rfl rfl (zj_same hD hS hA) hS hl.1 rfl (Nat.le_of_ble_eq_true rfl) dX9_haltsAt_250 ⟨Nat.zero_le _, Nat.zero_le _⟩ rfl (fun H locs hP hD hS => ?_)
        obtain rfl := z_inj1 hf
        exact z_vret X hr hlk hP hD hS dX9_haltsAt_253
      · have hf := ite_f hf c6
        refine lv_aload_n X.1 X.2.1 dX9_haltsAt_104 rfl (lv_at hl 0 rfl) ?_
        refine z_get X hK hP hiX9 0 rfl rfl 4 (by decide) (bw_in W6_19) rfl dX9_haltsAt_105 ?_
        refine lv_iload_n X.1 X.2.1 dX9_haltsAt_108 rfl (lv_at hl 2 rfl) ?_
        obtain ⟨hi10, hf⟩ := chk_e hf
        obtain ⟨v9, ev9, hf⟩ := stp_e hf
        refine z_iald X hK hP 4 rfl hi10 ev9 dX9_haltsAt_109 ?_
        refine lv_iload_n X.1 X.2.1 dX9_haltsAt_110 rfl (lv_at hl 1 rfl) ?_
        refine lv_icmp_ne (tgt := 243) X.1 X.2.1 dX9_haltsAt_111 (by decide) (fun c11 => ?_) (fun c11 => ?_)
        · have hf := ite_f hf c11
          obtain ⟨w12, ew12, hf⟩ := stp_e hf
          refine lv_iinc (v := w12) (lv' := [(2, .int w12), (0, .ref (aM 0)), (1, .int n96_0)]) X.1 X.2.1 dX9_haltsAt_243 hl (k := 2) rfl (by rw [ew12]; rfl) (by decide) rfl (fun ls hl => ?_)
          refine lv_goto (tgt := 96) X.1 X.2.1 dX9_haltsAt_246 (by decide) ?_
          exact ih _ _ _ hf _ _ hP hD hS _ (lv_sub hl [1, 2, 0] rfl)
        · have hf := ite_t hf c11
          refine lv_aload_n X.1 X.2.1 dX9_haltsAt_114 rfl (lv_at hl 0 rfl) ?_
          refine z_get X hK hP hiX9 0 rfl rfl 5 (by decide) (bw_in W6_20) rfl dX9_haltsAt_115 ?_
          refine lv_iload_n X.1 X.2.1 dX9_haltsAt_118 rfl (lv_at hl 2 rfl) ?_
          obtain ⟨hi14, hf⟩ := chk_e hf
          obtain ⟨v13, ev13, hf⟩ := stp_e hf
          refine z_iald X hK hP 5 rfl hi14 ev13 dX9_haltsAt_119 ?_
          refine lv_iload_n X.1 X.2.1 dX9_haltsAt_120 rfl (lv_at hl 1 rfl) ?_
          refine lv_icmp_eq (tgt := 243) X.1 X.2.1 dX9_haltsAt_121 (by decide) (fun c15 => ?_) (fun c15 => ?_)
          · have hf := ite_t hf c15
            obtain ⟨w16, ew16, hf⟩ := stp_e hf
            refine lv_iinc (v := w16) (lv' := [(2, .int w16), (0, .ref (aM 0)), (1, .int n96_0)]) X.1 X.2.1 dX9_haltsAt_243 hl (k := 2) rfl (by rw [ew16]; rfl) (by decide) rfl (fun ls hl => ?_)
            refine lv_goto (tgt := 96) X.1 X.2.1 dX9_haltsAt_246 (by decide) ?_
            exact ih _ _ _ hf _ _ hP hD hS _ (lv_sub hl [1, 2, 0] rfl)
          · have hf := ite_f hf c15
            refine lv_aload_n X.1 X.2.1 dX9_haltsAt_124 rfl (lv_at hl 0 rfl) ?_
            refine z_get X hK hP hiX9 0 rfl rfl 20 (by decide) (bw_in W20_20) rfl dX9_haltsAt_125 ?_
            refine lv_iload_n X.1 X.2.1 dX9_haltsAt_128 rfl (lv_at hl 2 rfl) ?_
            obtain ⟨r17, hc18, hf⟩ := bd1_e hf
            refine z_S (n := 2) (As := [.int (q96_M 0 20), .int n96_1]) (rest := []) X hK hN (kX9_isIn l D K _ (q96_M 0 20) n96_1 r17 hc18) (bw_S W21_8 W21_9 W1_5 W21_10) rfl ⟨rfl, rfl⟩ (by decide +kernel) rfl ⟨Nat.le_of_ble_eq_true rfl, Nat.le_of_ble_eq_true rfl⟩ (fun _ _ h => by simp at h) ⟨fun _ _ _ _ h => by simp at h, fun _ _ h => by simp at h⟩ (zj_none hP hD hS hA) hS hl.1 rfl (Nat.le_of_ble_eq_true rfl) dX9_haltsAt_129 ⟨Nat.zero_le _, Nat.zero_le _⟩ rfl (fun H locs hP hD hS => ?_)
            refine lv_if_ne (tgt := 243) X.1 X.2.1 dX9_haltsAt_132 (by decide) (fun c19 => ?_) (fun c19 => ?_)
            · have hf := ite_f hf c19
              obtain ⟨w20, ew20, hf⟩ := stp_e hf
              refine lv_iinc (v := w20) (lv' := [(2, .int w20), (0, .ref (aM 0)), (1, .int n96_0)]) X.1 X.2.1 dX9_haltsAt_243 hl (k := 2) rfl (by rw [ew20]; rfl) (by decide) rfl (fun ls hl => ?_)
              refine lv_goto (tgt := 96) X.1 X.2.1 dX9_haltsAt_246 (by decide) ?_
              exact ih _ _ _ hf _ _ hP hD hS _ (lv_sub hl [1, 2, 0] rfl)
            · have hf := ite_t hf c19
              refine lv_aload_n X.1 X.2.1 dX9_haltsAt_135 rfl (lv_at hl 0 rfl) ?_
              obtain ⟨r21, hc22, hf⟩ := bd1_e hf
              refine z_V (n := 0) (As := []) (rest := []) (ci := 9) (q0 := 0) X hK hN (kX9_load l D K aM q96_M _ r21 hc22) (bw_V W21_4 W21_5 W21_6 W1_5 W21_7) rfl ⟨rfl, rfl⟩ (by decide +kernel) rfl ⟨Nat.le_of_ble_eq_true rfl, Nat.le_of_ble_eq_true rfl⟩ hP hD rfl rfl (zj_same hD hS hA) hS hl.1 rfl (Nat.le_of_ble_eq_true rfl) dX9_haltsAt_136 ⟨Nat.zero_le _, Nat.zero_le _⟩ rfl (fun H locs hP hD hS => ?_)
              refine lv_aload_n X.1 X.2.1 dX9_haltsAt_139 rfl (lv_at hl 0 rfl) ?_
              refine z_get X hK hP hiX9 0 rfl rfl 3 (by decide) (bw_in W6_18) rfl dX9_haltsAt_140 ?_
              refine lv_iload_n X.1 X.2.1 dX9_haltsAt_143 rfl (lv_at hl 2 rfl) ?_
              obtain ⟨hi24, hf⟩ := chk_e hf
              obtain ⟨v23, ev23, hf⟩ := stp_e hf
              refine z_iald X hK hP 3 rfl hi24 ev23 dX9_haltsAt_144 ?_
              refine lv_iadd X.1 X.2.1 dX9_haltsAt_145 ?_
              refine lv_aload_n X.1 X.2.1 dX9_haltsAt_146 rfl (lv_at hl 0 rfl) ?_
              refine z_get X hK hP hiX9 0 rfl rfl 12 (by decide) (bw_in W7_21) rfl dX9_haltsAt_147 ?_
              refine lv_icmp_gt (tgt := 190) X.1 X.2.1 dX9_haltsAt_150 (by decide) (fun c25 => ?_) (fun c25 => ?_)
              · have hf := ite_t hf c25
                refine lv_aload_n X.1 X.2.1 dX9_haltsAt_190 rfl (lv_at hl 0 rfl) ?_
                refine z_get X hK hP hiX9 0 rfl rfl 28 (by decide) (bw_in W7_7) rfl dX9_haltsAt_191 ?_
                refine lv_iload_n X.1 X.2.1 dX9_haltsAt_194 rfl (lv_at hl 2 rfl) ?_
                refine lv_dup2_11 X.1 X.2.1 dX9_haltsAt_195 rfl rfl ?_
                obtain ⟨hi27, hf⟩ := chk_e hf
                obtain ⟨v26, ev26, hf⟩ := stp_e hf
                refine z_iald X hK hP 16 rfl hi27 ev26 dX9_haltsAt_196 ?_
                refine lv_iconst (v := 1) X.1 X.2.1 dX9_haltsAt_197 (by decide) ?_
                refine lv_iadd X.1 X.2.1 dX9_haltsAt_198 ?_
                obtain ⟨hi28, hf⟩ := chk_e hf
                obtain ⟨s29, es29, hf⟩ := stp_e hf
                refine z_iast (ws' := wbX9 K aM s29) X hK hP hD hS 16 rfl hi28 dX9_haltsAt_199 (by rw [es29]; rfl) (fun H locs hP hD hS => ?_)
                refine lv_aload_n X.1 X.2.1 dX9_haltsAt_200 rfl (lv_at hl 0 rfl) ?_
                refine lv_aload_n X.1 X.2.1 dX9_haltsAt_201 rfl (lv_at hl 0 rfl) ?_
                refine z_get X hK hP hiX9 0 rfl rfl 29 (by decide) (bw_in W20_22) rfl dX9_haltsAt_202 ?_
                refine lv_iconst (v := -1) X.1 X.2.1 dX9_haltsAt_205 (by decide) ?_
                refine lv_icmp_ne (tgt := 213) X.1 X.2.1 dX9_haltsAt_206 (by decide) (fun c30 => ?_) (fun c30 => ?_)
                · have hf := ite_f hf c30
                  refine lv_aload_n X.1 X.2.1 dX9_haltsAt_213 rfl (lv_at hl 0 rfl) ?_
                  refine z_get X hK hP hiX9 0 rfl rfl 30 (by decide) (bw_in W20_23) rfl dX9_haltsAt_214 ?_
                  obtain ⟨s31, es31, hf⟩ := stp_e hf
                  refine z_put (ws' := wbX9 K aM s31) X hK hP hD hS hiX9 tyX9_ok nmX9 0 rfl rfl 30 (by decide) (bw_in W20_23) rfl rfl rfl (Nat.le_of_ble_eq_true rfl) dX9_haltsAt_217 (by rw [es31]; rfl) (fun H locs hP hD hS => ?_)
                  refine lv_aload_n X.1 X.2.1 dX9_haltsAt_220 rfl (lv_at hl 0 rfl) ?_
                  refine lv_aload_n X.1 X.2.1 dX9_haltsAt_221 rfl (lv_at hl 0 rfl) ?_
                  refine z_get X hK hP hiX9 0 rfl rfl 29 (by decide) (bw_in W20_22) rfl dX9_haltsAt_222 ?_
                  refine lv_iconst (v := -1) X.1 X.2.1 dX9_haltsAt_225 (by decide) ?_
                  refine lv_icmp_ne (tgt := 236) X.1 X.2.1 dX9_haltsAt_226 (by decide) (fun c32 => ?_) (fun c32 => ?_)
                  · have hf := ite_f hf c32
                    refine lv_aload_n X.1 X.2.1 dX9_haltsAt_236 rfl (lv_at hl 0 rfl) ?_
                    refine z_get X hK hP hiX9 0 rfl rfl 29 (by decide) (bw_in W20_22) rfl dX9_haltsAt_237 ?_
                    obtain ⟨s33, es33, hf⟩ := stp_e hf
                    refine z_put (ws' := wbX9 K aM s33) X hK hP hD hS hiX9 tyX9_ok nmX9 0 rfl rfl 29 (by decide) (bw_in W20_22) rfl rfl rfl (Nat.le_of_ble_eq_true rfl) dX9_haltsAt_240 (by rw [es33]; rfl) (fun H locs hP hD hS => ?_)
                    obtain ⟨w34, ew34, hf⟩ := stp_e hf
                    refine lv_iinc (v := w34) (lv' := [(2, .int w34), (0, .ref (aM 0)), (1, .int n96_0)]) X.1 X.2.1 dX9_haltsAt_243 hl (k := 2) rfl (by rw [ew34]; rfl) (by decide) rfl (fun ls hl => ?_)
                    refine lv_goto (tgt := 96) X.1 X.2.1 dX9_haltsAt_246 (by decide) ?_
                    exact ih _ _ _ hf _ _ hP hD hS _ (lv_sub hl [1, 2, 0] rfl)
                  · have hf := ite_t hf c32
                    refine lv_aload_n X.1 X.2.1 dX9_haltsAt_229 rfl (lv_at hl 0 rfl) ?_
                    refine z_get X hK hP hiX9 0 rfl rfl 16 (by decide) (bw_in W19_22) rfl dX9_haltsAt_230 ?_
                    refine lv_goto (tgt := 240) X.1 X.2.1 dX9_haltsAt_233 (by decide) ?_
                    obtain ⟨s35, es35, hf⟩ := stp_e hf
                    refine z_put (ws' := wbX9 K aM s35) X hK hP hD hS hiX9 tyX9_ok nmX9 0 rfl rfl 29 (by decide) (bw_in W20_22) rfl rfl rfl (Nat.le_of_ble_eq_true rfl) dX9_haltsAt_240 (by rw [es35]; rfl) (fun H locs hP hD hS => ?_)
                    obtain ⟨w36, ew36, hf⟩ := stp_e hf
                    refine lv_iinc (v := w36) (lv' := [(2, .int w36), (0, .ref (aM 0)), (1, .int n96_0)]) X.1 X.2.1 dX9_haltsAt_243 hl (k := 2) rfl (by rw [ew36]; rfl) (by decide) rfl (fun ls hl => ?_)
                    refine lv_goto (tgt := 96) X.1 X.2.1 dX9_haltsAt_246 (by decide) ?_
                    exact ih _ _ _ hf _ _ hP hD hS _ (lv_sub hl [1, 2, 0] rfl)
                · have hf := ite_t hf c30
                  refine lv_iload_n X.1 X.2.1 dX9_haltsAt_209 rfl (lv_at hl 2 rfl) ?_
                  refine lv_goto (tgt := 217) X.1 X.2.1 dX9_haltsAt_210 (by decide) ?_
                  obtain ⟨s37, es37, hf⟩ := stp_e hf
                  refine z_put (ws' := wbX9 K aM s37) X hK hP hD hS hiX9 tyX9_ok nmX9 0 rfl rfl 30 (by decide) (bw_in W20_23) rfl rfl rfl (Nat.le_of_ble_eq_true rfl) dX9_haltsAt_217 (by rw [es37]; rfl) (fun H locs hP hD hS => ?_)
                  refine lv_aload_n X.1 X.2.1 dX9_haltsAt_220 rfl (lv_at hl 0 rfl) ?_
                  refine lv_aload_n X.1 X.2.1 dX9_haltsAt_221 rfl (lv_at hl 0 rfl) ?_
                  refine z_get X hK hP hiX9 0 rfl rfl 29 (by decide) (bw_in W20_22) rfl dX9_haltsAt_222 ?_
                  refine lv_iconst (v := -1) X.1 X.2.1 dX9_haltsAt_225 (by decide) ?_
                  refine lv_icmp_ne (tgt := 236) X.1 X.2.1 dX9_haltsAt_226 (by decide) (fun c38 => ?_) (fun c38 => ?_)
                  · have hf := ite_f hf c38
                    refine lv_aload_n X.1 X.2.1 dX9_haltsAt_236 rfl (lv_at hl 0 rfl) ?_
                    refine z_get X hK hP hiX9 0 rfl rfl 29 (by decide) (bw_in W20_22) rfl dX9_haltsAt_237 ?_
                    obtain ⟨s39, es39, hf⟩ := stp_e hf
                    refine z_put (ws' := wbX9 K aM s39) X hK hP hD hS hiX9 tyX9_ok nmX9 0 rfl rfl 29 (by decide) (bw_in W20_22) rfl rfl rfl (Nat.le_of_ble_eq_true rfl) dX9_haltsAt_240 (by rw [es39]; rfl) (fun H locs hP hD hS => ?_)
                    obtain ⟨w40, ew40, hf⟩ := stp_e hf
                    refine lv_iinc (v := w40) (lv' := [(2, .int w40), (0, .ref (aM 0)), (1, .int n96_0)]) X.1 X.2.1 dX9_haltsAt_243 hl (k := 2) rfl (by rw [ew40]; rfl) (by decide) rfl (fun ls hl => ?_)
                    refine lv_goto (tgt := 96) X.1 X.2.1 dX9_haltsAt_246 (by decide) ?_
                    exact ih _ _ _ hf _ _ hP hD hS _ (lv_sub hl [1, 2, 0] rfl)
                  · have hf := ite_t hf c38
                    refine lv_aload_n X.1 X.2.1 dX9_haltsAt_229 rfl (lv_at hl 0 rfl) ?_
                    refine z_get X hK hP hiX9 0 rfl rfl 16 (by decide) (bw_in W19_22) rfl dX9_haltsAt_230 ?_
                    refine lv_goto (tgt := 240) X.1 X.2.1 dX9_haltsAt_233 (by decide) ?_
                    obtain ⟨s41, es41, hf⟩ := stp_e hf
                    refine z_put (ws' := wbX9 K aM s41) X hK hP hD hS hiX9 tyX9_ok nmX9 0 rfl rfl 29 (by decide) (bw_in W20_22) rfl rfl rfl (Nat.le_of_ble_eq_true rfl) dX9_haltsAt_240 (by rw [es41]; rfl) (fun H locs hP hD hS => ?_)
                    obtain ⟨w42, ew42, hf⟩ := stp_e hf
                    refine lv_iinc (v := w42) (lv' := [(2, .int w42), (0, .ref (aM 0)), (1, .int n96_0)]) X.1 X.2.1 dX9_haltsAt_243 hl (k := 2) rfl (by rw [ew42]; rfl) (by decide) rfl (fun ls hl => ?_)
                    refine lv_goto (tgt := 96) X.1 X.2.1 dX9_haltsAt_246 (by decide) ?_
                    exact ih _ _ _ hf _ _ hP hD hS _ (lv_sub hl [1, 2, 0] rfl)
              · have hf := ite_f hf c25
                refine lv_aload_n X.1 X.2.1 dX9_haltsAt_153 rfl (lv_at hl 0 rfl) ?_
                refine lv_dup X.1 X.2.1 dX9_haltsAt_154 rfl ?_
                refine z_get X hK hP hiX9 0 rfl rfl 18 (by decide) (bw_in W20_18) rfl dX9_haltsAt_155 ?_
                refine lv_iconst (v := 1) X.1 X.2.1 dX9_haltsAt_158 (by decide) ?_
                refine lv_iload_n X.1 X.2.1 dX9_haltsAt_159 rfl (lv_at hl 2 rfl) ?_
                refine lv_ishl X.1 X.2.1 dX9_haltsAt_160 ?_
                refine lv_ior X.1 X.2.1 dX9_haltsAt_161 ?_
                obtain ⟨s43, es43, hf⟩ := stp_e hf
                refine z_put (ws' := wbX9 K aM s43) X hK hP hD hS hiX9 tyX9_ok nmX9 0 rfl rfl 18 (by decide) (bw_in W20_18) rfl rfl rfl (Nat.le_of_ble_eq_true rfl) dX9_haltsAt_162 (by rw [es43]; rfl) (fun H locs hP hD hS => ?_)
                refine lv_aload_n X.1 X.2.1 dX9_haltsAt_165 rfl (lv_at hl 0 rfl) ?_
                refine lv_dup X.1 X.2.1 dX9_haltsAt_166 rfl ?_
                refine z_get X hK hP hiX9 0 rfl rfl 20 (by decide) (bw_in W20_20) rfl dX9_haltsAt_167 ?_
                refine lv_iconst (v := 1) X.1 X.2.1 dX9_haltsAt_170 (by decide) ?_
                refine lv_iload_n X.1 X.2.1 dX9_haltsAt_171 rfl (lv_at hl 2 rfl) ?_
                refine lv_ishl X.1 X.2.1 dX9_haltsAt_172 ?_
                refine lv_ior X.1 X.2.1 dX9_haltsAt_173 ?_
                obtain ⟨s44, es44, hf⟩ := stp_e hf
                refine z_put (ws' := wbX9 K aM s44) X hK hP hD hS hiX9 tyX9_ok nmX9 0 rfl rfl 20 (by decide) (bw_in W20_20) rfl rfl rfl (Nat.le_of_ble_eq_true rfl) dX9_haltsAt_174 (by rw [es44]; rfl) (fun H locs hP hD hS => ?_)
                refine lv_aload_n X.1 X.2.1 dX9_haltsAt_177 rfl (lv_at hl 0 rfl) ?_
                refine z_get X hK hP hiX9 0 rfl rfl 26 (by decide) (bw_in W7_5) rfl dX9_haltsAt_178 ?_
                refine lv_iload_n X.1 X.2.1 dX9_haltsAt_181 rfl (lv_at hl 2 rfl) ?_
                refine lv_aload_n X.1 X.2.1 dX9_haltsAt_182 rfl (lv_at hl 0 rfl) ?_
                refine z_get X hK hP hiX9 0 rfl rfl 16 (by decide) (bw_in W19_22) rfl dX9_haltsAt_183 ?_
                obtain ⟨hi45, hf⟩ := chk_e hf
                obtain ⟨s46, es46, hf⟩ := stp_e hf
                refine z_iast (ws' := wbX9 K aM s46) X hK hP hD hS 14 rfl hi45 dX9_haltsAt_186 (by rw [es46]; rfl) (fun H locs hP hD hS => ?_)
                refine lv_goto (tgt := 243) X.1 X.2.1 dX9_haltsAt_187 (by decide) ?_
                obtain ⟨w47, ew47, hf⟩ := stp_e hf
                refine lv_iinc (v := w47) (lv' := [(2, .int w47), (0, .ref (aM 0)), (1, .int n96_0)]) X.1 X.2.1 dX9_haltsAt_243 hl (k := 2) rfl (by rw [ew47]; rfl) (by decide) rfl (fun ls hl => ?_)
                refine lv_goto (tgt := 96) X.1 X.2.1 dX9_haltsAt_246 (by decide) ?_
                exact ih _ _ _ hf _ _ hP hD hS _ (lv_sub hl [1, 2, 0] rfl)
  have L35_0 : ∀ (n : Nat), ∀ (n35_0 : Int32) (n35_1 : Int32) (q35_M : St), fX9_haltsAt_35 n n35_0 n35_1 q35_M = some s_ → ∀ (H : Heap) (locs : List Loc), va_P D vwCl (wbX9 K aM q35_M) H → va_D A (wbX9 K aM q35_M) → va_S A s.heap H locs → ∀ (ls : Array Slot), lv_has ls 3 [(0, .ref (aM 0)), (1, .int n35_0), (2, .int n35_1)] → W p l e rmX9_haltsAt s m ([.ref (aM 0), .int x1] : List Value).toArray below meth c H locs 0 0 (MQ below (zQ (none) D A (wbX9 K aM s_)) ([.ref (aM 0), .int x1] : List Value).toArray s 0 0 A) (F0 m 35 ls []) := by
    intro n
    induction n with
    | zero =>
      intro n35_0 n35_1 q35_M hf
      rw [fX9_haltsAt_35] at hf
      cases hf
    | succ n ih =>
      intro n35_0 n35_1 q35_M hf H locs hP hD hS ls hl
      rw [fX9_haltsAt_35] at hf
      refine lv_iload_n X.1 X.2.1 dX9_haltsAt_35 rfl (lv_at hl 2 rfl) ?_
      refine lv_aload_n X.1 X.2.1 dX9_haltsAt_36 rfl (lv_at hl 0 rfl) ?_
      refine z_get X hK hP hiX9 0 rfl rfl 2 (by decide) (bw_in W10_12) rfl dX9_haltsAt_37 ?_
      refine lv_icmp_ge (tgt := 94) X.1 X.2.1 dX9_haltsAt_40 (by decide) (fun c5 => ?_) (fun c5 => ?_)
      · have hf := ite_t hf c5
        refine lv_iconst (v := 0) X.1 X.2.1 dX9_haltsAt_94 (by decide) ?_
        refine lv_istore_n (lv' := [(2, .int 0), (0, .ref (aM 0)), (1, .int n35_0)]) X.1 X.2.1 dX9_haltsAt_95 rfl hl (by decide) rfl (fun ls hl => ?_)
        exact L96_1  _ _ _ _ hf _ _ hP hD hS _ (lv_sub hl [1, 2, 0] rfl)
      · have hf := ite_f hf c5
        refine lv_aload_n X.1 X.2.1 dX9_haltsAt_43 rfl (lv_at hl 0 rfl) ?_
        refine z_get X hK hP hiX9 0 rfl rfl 18 (by decide) (bw_in W20_18) rfl dX9_haltsAt_44 ?_
        refine lv_iload_n X.1 X.2.1 dX9_haltsAt_47 rfl (lv_at hl 2 rfl) ?_
        obtain ⟨r48, hc49, hf⟩ := bd1_e hf
        refine z_S (n := 2) (As := [.int (q35_M 0 18), .int n35_1]) (rest := []) X hK hN (kX9_isIn l D K _ (q35_M 0 18) n35_1 r48 hc49) (bw_S W21_8 W21_9 W1_5 W21_10) rfl ⟨rfl, rfl⟩ (by decide +kernel) rfl ⟨Nat.le_of_ble_eq_true rfl, Nat.le_of_ble_eq_true rfl⟩ (fun _ _ h => by simp at h) ⟨fun _ _ _ _ h => by simp at h, fun _ _ h => by simp at h⟩ (zj_none hP hD hS hA) hS hl.1 rfl (Nat.le_of_ble_eq_true rfl) dX9_haltsAt_48 ⟨Nat.zero_le _, Nat.zero_le _⟩ rfl (fun H locs hP hD hS => ?_)
        refine lv_if_eq (tgt := 88) X.1 X.2.1 dX9_haltsAt_51 (by decide) (fun c50 => ?_) (fun c50 => ?_)
        · have hf := ite_t hf c50
          obtain ⟨w51, ew51, hf⟩ := stp_e hf
          refine lv_iinc (v := w51) (lv' := [(2, .int w51), (0, .ref (aM 0)), (1, .int n35_0)]) X.1 X.2.1 dX9_haltsAt_88 hl (k := 2) rfl (by rw [ew51]; rfl) (by decide) rfl (fun ls hl => ?_)
          refine lv_goto (tgt := 35) X.1 X.2.1 dX9_haltsAt_91 (by decide) ?_
          exact ih _ _ _ hf _ _ hP hD hS _ (lv_sub hl [1, 2, 0] rfl)
        · have hf := ite_f hf c50
          refine lv_aload_n X.1 X.2.1 dX9_haltsAt_54 rfl (lv_at hl 0 rfl) ?_
          refine z_get X hK hP hiX9 0 rfl rfl 5 (by decide) (bw_in W6_20) rfl dX9_haltsAt_55 ?_
          refine lv_iload_n X.1 X.2.1 dX9_haltsAt_58 rfl (lv_at hl 2 rfl) ?_
          obtain ⟨hi53, hf⟩ := chk_e hf
          obtain ⟨v52, ev52, hf⟩ := stp_e hf
          refine z_iald X hK hP 5 rfl hi53 ev52 dX9_haltsAt_59 ?_
          refine lv_iload_n X.1 X.2.1 dX9_haltsAt_60 rfl (lv_at hl 1 rfl) ?_
          refine lv_icmp_ne (tgt := 88) X.1 X.2.1 dX9_haltsAt_61 (by decide) (fun c54 => ?_) (fun c54 => ?_)
          · have hf := ite_f hf c54
            obtain ⟨w55, ew55, hf⟩ := stp_e hf
            refine lv_iinc (v := w55) (lv' := [(2, .int w55), (0, .ref (aM 0)), (1, .int n35_0)]) X.1 X.2.1 dX9_haltsAt_88 hl (k := 2) rfl (by rw [ew55]; rfl) (by decide) rfl (fun ls hl => ?_)
            refine lv_goto (tgt := 35) X.1 X.2.1 dX9_haltsAt_91 (by decide) ?_
            exact ih _ _ _ hf _ _ hP hD hS _ (lv_sub hl [1, 2, 0] rfl)
          · have hf := ite_t hf c54
            refine lv_aload_n X.1 X.2.1 dX9_haltsAt_64 rfl (lv_at hl 0 rfl) ?_
            refine lv_dup X.1 X.2.1 dX9_haltsAt_65 rfl ?_
            refine z_get X hK hP hiX9 0 rfl rfl 18 (by decide) (bw_in W20_18) rfl dX9_haltsAt_66 ?_
            refine lv_iconst (v := 1) X.1 X.2.1 dX9_haltsAt_69 (by decide) ?_
            refine lv_iload_n X.1 X.2.1 dX9_haltsAt_70 rfl (lv_at hl 2 rfl) ?_
            refine lv_ishl X.1 X.2.1 dX9_haltsAt_71 ?_
            refine lv_iconst (v := -1) X.1 X.2.1 dX9_haltsAt_72 (by decide) ?_
            refine lv_ixor X.1 X.2.1 dX9_haltsAt_73 ?_
            refine lv_iand X.1 X.2.1 dX9_haltsAt_74 ?_
            obtain ⟨s56, es56, hf⟩ := stp_e hf
            refine z_put (ws' := wbX9 K aM s56) X hK hP hD hS hiX9 tyX9_ok nmX9 0 rfl rfl 18 (by decide) (bw_in W20_18) rfl rfl rfl (Nat.le_of_ble_eq_true rfl) dX9_haltsAt_75 (by rw [es56]; rfl) (fun H locs hP hD hS => ?_)
            refine lv_aload_n X.1 X.2.1 dX9_haltsAt_78 rfl (lv_at hl 0 rfl) ?_
            refine z_get X hK hP hiX9 0 rfl rfl 27 (by decide) (bw_in W7_6) rfl dX9_haltsAt_79 ?_
            refine lv_iload_n X.1 X.2.1 dX9_haltsAt_82 rfl (lv_at hl 2 rfl) ?_
            refine lv_aload_n X.1 X.2.1 dX9_haltsAt_83 rfl (lv_at hl 0 rfl) ?_
            refine z_get X hK hP hiX9 0 rfl rfl 16 (by decide) (bw_in W19_22) rfl dX9_haltsAt_84 ?_
            obtain ⟨hi57, hf⟩ := chk_e hf
            obtain ⟨s58, es58, hf⟩ := stp_e hf
            refine z_iast (ws' := wbX9 K aM s58) X hK hP hD hS 15 rfl hi57 dX9_haltsAt_87 (by rw [es58]; rfl) (fun H locs hP hD hS => ?_)
            obtain ⟨w59, ew59, hf⟩ := stp_e hf
            refine lv_iinc (v := w59) (lv' := [(2, .int w59), (0, .ref (aM 0)), (1, .int n35_0)]) X.1 X.2.1 dX9_haltsAt_88 hl (k := 2) rfl (by rw [ew59]; rfl) (by decide) rfl (fun ls hl => ?_)
            refine lv_goto (tgt := 35) X.1 X.2.1 dX9_haltsAt_91 (by decide) ?_
            exact ih _ _ _ hf _ _ hP hD hS _ (lv_sub hl [1, 2, 0] rfl)
  rw [fX9_haltsAt] at hf
  refine lv_aload_n X.1 X.2.1 dX9_haltsAt_0 rfl (lv_at hl 0 rfl) ?_
  refine lv_dup X.1 X.2.1 dX9_haltsAt_1 rfl ?_
  refine z_get X hK hP hiX9 0 rfl rfl 16 (by decide) (bw_in W19_22) rfl dX9_haltsAt_2 ?_
  refine lv_iconst (v := 1) X.1 X.2.1 dX9_haltsAt_5 (by decide) ?_
  refine lv_iadd X.1 X.2.1 dX9_haltsAt_6 ?_
  obtain ⟨s1, es1, hf⟩ := stp_e hf
  refine z_put (ws' := wbX9 K aM s1) X hK hP hD hS hiX9 tyX9_ok nmX9 0 rfl rfl 16 (by decide) (bw_in W19_22) rfl rfl rfl (Nat.le_of_ble_eq_true rfl) dX9_haltsAt_7 (by rw [es1]; rfl) (fun H locs hP hD hS => ?_)
  refine lv_aload_n X.1 X.2.1 dX9_haltsAt_10 rfl (lv_at hl 0 rfl) ?_
  refine lv_iconst (v := 2) X.1 X.2.1 dX9_haltsAt_11 (by decide) ?_
  refine lv_iload_n X.1 X.2.1 dX9_haltsAt_12 rfl (lv_at hl 1 rfl) ?_
  refine lv_imul X.1 X.2.1 dX9_haltsAt_13 ?_
  obtain ⟨s2, es2, hf⟩ := stp_e hf
  refine z_put (ws' := wbX9 K aM s2) X hK hP hD hS hiX9 tyX9_ok nmX9 0 rfl rfl 17 (by decide) (bw_in W20_13) rfl rfl rfl (Nat.le_of_ble_eq_true rfl) dX9_haltsAt_14 (by rw [es2]; rfl) (fun H locs hP hD hS => ?_)
  refine lv_aload_n X.1 X.2.1 dX9_haltsAt_17 rfl (lv_at hl 0 rfl) ?_
  refine lv_iload_n X.1 X.2.1 dX9_haltsAt_18 rfl (lv_at hl 1 rfl) ?_
  refine lv_if_ne (tgt := 26) X.1 X.2.1 dX9_haltsAt_19 (by decide) (fun c3 => ?_) (fun c3 => ?_)
  · have hf := ite_f hf c3
    refine lv_aload_n X.1 X.2.1 dX9_haltsAt_26 rfl (lv_at hl 0 rfl) ?_
    refine z_get X hK hP hiX9 0 rfl rfl 19 (by decide) (bw_in W20_19) rfl dX9_haltsAt_27 ?_
    obtain ⟨s4, es4, hf⟩ := stp_e hf
    refine z_put (ws' := wbX9 K aM s4) X hK hP hD hS hiX9 tyX9_ok nmX9 0 rfl rfl 19 (by decide) (bw_in W20_19) rfl rfl rfl (Nat.le_of_ble_eq_true rfl) dX9_haltsAt_30 (by rw [es4]; rfl) (fun H locs hP hD hS => ?_)
    refine lv_iconst (v := 0) X.1 X.2.1 dX9_haltsAt_33 (by decide) ?_
    refine lv_istore_n (lv' := [(2, .int 0), (0, .ref (aM 0)), (1, .int x1)]) X.1 X.2.1 dX9_haltsAt_34 rfl hl (by decide) rfl (fun ls hl => ?_)
    exact L35_0  _ _ _ _ hf _ _ hP hD hS _ (lv_sub hl [1, 2, 0] rfl)
  · have hf := ite_t hf c3
    refine lv_iconst (v := 0) X.1 X.2.1 dX9_haltsAt_22 (by decide) ?_
    refine lv_goto (tgt := 30) X.1 X.2.1 dX9_haltsAt_23 (by decide) ?_
    obtain ⟨s60, es60, hf⟩ := stp_e hf
    refine z_put (ws' := wbX9 K aM s60) X hK hP hD hS hiX9 tyX9_ok nmX9 0 rfl rfl 19 (by decide) (bw_in W20_19) rfl rfl rfl (Nat.le_of_ble_eq_true rfl) dX9_haltsAt_30 (by rw [es60]; rfl) (fun H locs hP hD hS => ?_)
    refine lv_iconst (v := 0) X.1 X.2.1 dX9_haltsAt_33 (by decide) ?_
    refine lv_istore_n (lv' := [(2, .int 0), (0, .ref (aM 0)), (1, .int x1)]) X.1 X.2.1 dX9_haltsAt_34 rfl hl (by decide) rfl (fun ls hl => ?_)
    exact L35_0  _ _ _ _ hf _ _ hP hD hS _ (lv_sub hl [1, 2, 0] rfl)
abbrev rmX9_isWaiting : Room := { frames := 1, cells := 0, slots := 0, locals := 21 }
set_option maxHeartbeats 4000000 in
set_option maxRecDepth 100000 in
theorem kX9_isWaiting (l : Launch) (D : va_G) (K : Nat → ClassId) (aM : Nat → Nat) (s0 : St) (sz : Nat) (x1 : Int32) (q_ : Int32) (hf : fX9_isWaiting s0 x1 = some q_) : Met l yX9_isWaiting (bw (Cond.code yX9_isWaiting cX9_isWaiting 2 (some .boolean))) rmX9_isWaiting (va_Pc [.ref (aM 0), .int x1] (zB D K sz (wbX9 K aM s0))) (zQ (some (.int q_)) D (va_A (wbX9 K aM s0) sz) (wbX9 K aM s0)) 0 0 (va_A (wbX9 K aM s0) sz) := by
  refine z_of (cc := cX9_isWaiting) (maxL := 2) (ret := (some .boolean)) (own := RX9) (lv := [(0, .ref (aM 0)), (1, .int x1)]) (by decide) rfl rfl (Nat.le_of_ble_eq_true rfl) rfl ?_
  intro p e s m below meth c X hr hlk hK hN hsz hP hD hA hS hin ls hl
  generalize va_A (wbX9 K aM s0) sz = A at hD hA hS hN ⊢
  have hiX9 : ∀ w ∈ u_ws RX9 TX9 44, w ∈ (bw (Cond.code yX9_isWaiting cX9_isWaiting 2 (some .boolean))) := fun w h => bw_in (inlX9 w h)
  rw [fX9_isWaiting] at hf
  refine lv_aload_n X.1 X.2.1 dX9_isWaiting_0 rfl (lv_at hl 0 rfl) ?_
  refine z_get X hK hP hiX9 0 rfl rfl 15 (by decide) (bw_in W20_8) rfl dX9_isWaiting_1 ?_
  refine lv_iload_n X.1 X.2.1 dX9_isWaiting_4 rfl (lv_at hl 1 rfl) ?_
  obtain ⟨r1, hc2, hf⟩ := bd1_e hf
  refine z_S (n := 2) (As := [.int (s0 0 15), .int x1]) (rest := []) X hK hN (kX9_isIn l D K _ (s0 0 15) x1 r1 hc2) (bw_S W21_8 W21_9 W1_5 W21_10) rfl ⟨rfl, rfl⟩ (by decide +kernel) rfl ⟨Nat.le_of_ble_eq_true rfl, Nat.le_of_ble_eq_true rfl⟩ (fun _ _ h => by simp at h) ⟨fun _ _ _ _ h => by simp at h, fun _ _ h => by simp at h⟩ (zj_none hP hD hS hA) hS hl.1 rfl (Nat.le_of_ble_eq_true rfl) dX9_isWaiting_5 ⟨Nat.zero_le _, Nat.zero_le _⟩ rfl (fun H locs hP hD hS => ?_)
  refine lv_if_eq (tgt := 52) X.1 X.2.1 dX9_isWaiting_8 (by decide) (fun c3 => ?_) (fun c3 => ?_)
  · have hf := ite_t hf c3
    refine lv_iconst (v := 0) X.1 X.2.1 dX9_isWaiting_52 (by decide) ?_
    obtain rfl := z_inj1 hf
    exact z_zret X hr hlk (by decide) hP hD hS dX9_isWaiting_53
  · have hf := ite_f hf c3
    refine lv_aload_n X.1 X.2.1 dX9_isWaiting_11 rfl (lv_at hl 0 rfl) ?_
    refine z_get X hK hP hiX9 0 rfl rfl 8 (by decide) (bw_in W6_22) rfl dX9_isWaiting_12 ?_
    refine lv_iload_n X.1 X.2.1 dX9_isWaiting_15 rfl (lv_at hl 1 rfl) ?_
    obtain ⟨hi5, hf⟩ := chk_e hf
    obtain ⟨v4, ev4, hf⟩ := stp_e hf
    refine z_iald X hK hP 7 rfl hi5 ev4 dX9_isWaiting_16 ?_
    refine lv_aload_n X.1 X.2.1 dX9_isWaiting_17 rfl (lv_at hl 0 rfl) ?_
    refine z_get X hK hP hiX9 0 rfl rfl 2 (by decide) (bw_in W10_12) rfl dX9_isWaiting_18 ?_
    refine lv_icmp_ge (tgt := 52) X.1 X.2.1 dX9_isWaiting_21 (by decide) (fun c6 => ?_) (fun c6 => ?_)
    · have hf := ite_t hf c6
      refine lv_iconst (v := 0) X.1 X.2.1 dX9_isWaiting_52 (by decide) ?_
      obtain rfl := z_inj1 hf
      exact z_zret X hr hlk (by decide) hP hD hS dX9_isWaiting_53
    · have hf := ite_f hf c6
      refine lv_aload_n X.1 X.2.1 dX9_isWaiting_24 rfl (lv_at hl 0 rfl) ?_
      refine z_get X hK hP hiX9 0 rfl rfl 7 (by decide) (bw_in W6_21) rfl dX9_isWaiting_25 ?_
      refine lv_iload_n X.1 X.2.1 dX9_isWaiting_28 rfl (lv_at hl 1 rfl) ?_
      obtain ⟨hi8, hf⟩ := chk_e hf
      obtain ⟨v7, ev7, hf⟩ := stp_e hf
      refine z_iald X hK hP 6 rfl hi8 ev7 dX9_isWaiting_29 ?_
      refine lv_aload_n X.1 X.2.1 dX9_isWaiting_30 rfl (lv_at hl 0 rfl) ?_
      refine z_get X hK hP hiX9 0 rfl rfl 16 (by decide) (bw_in W19_22) rfl dX9_isWaiting_31 ?_
      refine lv_icmp_gt (tgt := 52) X.1 X.2.1 dX9_isWaiting_34 (by decide) (fun c9 => ?_) (fun c9 => ?_)
      · have hf := ite_t hf c9
        refine lv_iconst (v := 0) X.1 X.2.1 dX9_isWaiting_52 (by decide) ?_
        obtain rfl := z_inj1 hf
        exact z_zret X hr hlk (by decide) hP hD hS dX9_isWaiting_53
      · have hf := ite_f hf c9
        refine lv_aload_n X.1 X.2.1 dX9_isWaiting_37 rfl (lv_at hl 0 rfl) ?_
        refine z_get X hK hP hiX9 0 rfl rfl 21 (by decide) (bw_in W20_21) rfl dX9_isWaiting_38 ?_
        refine lv_iload_n X.1 X.2.1 dX9_isWaiting_41 rfl (lv_at hl 1 rfl) ?_
        obtain ⟨r10, hc11, hf⟩ := bd1_e hf
        refine z_S (n := 2) (As := [.int (s0 0 21), .int x1]) (rest := []) X hK hN (kX9_isIn l D K _ (s0 0 21) x1 r10 hc11) (bw_S W21_8 W21_9 W1_5 W21_10) rfl ⟨rfl, rfl⟩ (by decide +kernel) rfl ⟨Nat.le_of_ble_eq_true rfl, Nat.le_of_ble_eq_true rfl⟩ (fun _ _ h => by simp at h) ⟨fun _ _ _ _ h => by simp at h, fun _ _ h => by simp at h⟩ (zj_none hP hD hS hA) hS hl.1 rfl (Nat.le_of_ble_eq_true rfl) dX9_isWaiting_42 ⟨Nat.zero_le _, Nat.zero_le _⟩ rfl (fun H locs hP hD hS => ?_)
        refine lv_if_ne (tgt := 52) X.1 X.2.1 dX9_isWaiting_45 (by decide) (fun c12 => ?_) (fun c12 => ?_)
        · have hf := ite_f hf c12
          refine lv_iconst (v := 0) X.1 X.2.1 dX9_isWaiting_52 (by decide) ?_
          obtain rfl := z_inj1 hf
          exact z_zret X hr hlk (by decide) hP hD hS dX9_isWaiting_53
        · have hf := ite_t hf c12
          refine lv_iconst (v := 1) X.1 X.2.1 dX9_isWaiting_48 (by decide) ?_
          refine lv_goto (tgt := 53) X.1 X.2.1 dX9_isWaiting_49 (by decide) ?_
          obtain rfl := z_inj1 hf
          exact z_zret X hr hlk (by decide) hP hD hS dX9_isWaiting_53
abbrev rmX9_waiting : Room := { frames := 2, cells := 0, slots := 0, locals := 42 }
set_option maxHeartbeats 4000000 in
set_option maxRecDepth 100000 in
theorem kX9_waiting (l : Launch) (D : va_G) (K : Nat → ClassId) (aM : Nat → Nat) (s0 : St) (sz : Nat)  (q_ : Int32) (hf : fX9_waiting s0 = some q_) : Met l yX9_waiting (bw (Cond.code yX9_waiting cX9_waiting 3 (some .int))) rmX9_waiting (va_Pc [.ref (aM 0)] (zB D K sz (wbX9 K aM s0))) (zQ (some (.int q_)) D (va_A (wbX9 K aM s0) sz) (wbX9 K aM s0)) 0 0 (va_A (wbX9 K aM s0) sz) := by
  refine z_of (cc := cX9_waiting) (maxL := 3) (ret := (some .int)) (own := RX9) (lv := [(0, .ref (aM 0))]) (by decide) rfl rfl (Nat.le_of_ble_eq_true rfl) rfl ?_
  intro p e s m below meth c X hr hlk hK hN hsz hP hD hA hS hin ls hl
  generalize va_A (wbX9 K aM s0) sz = A at hD hA hS hN ⊢
  have hiX9 : ∀ w ∈ u_ws RX9 TX9 44, w ∈ (bw (Cond.code yX9_waiting cX9_waiting 3 (some .int))) := fun w h => bw_in (inlX9 w h)
  have L4_0 : ∀ (n : Nat), ∀ (n4_0 : Int32) (n4_1 : Int32) , fX9_waiting_4 s0 n n4_0 n4_1 = some q_ → ∀ (H : Heap) (locs : List Loc), va_P D vwCl (wbX9 K aM s0) H → va_D A (wbX9 K aM s0) → va_S A s.heap H locs → ∀ (ls : Array Slot), lv_has ls 3 [(0, .ref (aM 0)), (1, .int n4_0), (2, .int n4_1)] → W p l e rmX9_waiting s m ([.ref (aM 0)] : List Value).toArray below meth c H locs 0 0 (MQ below (zQ (some (.int q_)) D A (wbX9 K aM s0)) ([.ref (aM 0)] : List Value).toArray s 0 0 A) (F0 m 4 ls []) := by
    intro n
    induction n with
    | zero =>
      intro n4_0 n4_1  hf
      rw [fX9_waiting_4] at hf
      cases hf
    | succ n ih =>
      intro n4_0 n4_1  hf H locs hP hD hS ls hl
      rw [fX9_waiting_4] at hf
      refine lv_iload_n X.1 X.2.1 dX9_waiting_4 rfl (lv_at hl 2 rfl) ?_
      refine lv_aload_n X.1 X.2.1 dX9_waiting_5 rfl (lv_at hl 0 rfl) ?_
      refine z_get X hK hP hiX9 0 rfl rfl 6 (by decide) (bw_in W10_13) rfl dX9_waiting_6 ?_
      refine lv_icmp_ge (tgt := 36) X.1 X.2.1 dX9_waiting_9 (by decide) (fun c1 => ?_) (fun c1 => ?_)
      · have hf := ite_t hf c1
        refine lv_iload_n X.1 X.2.1 dX9_waiting_36 rfl (lv_at hl 1 rfl) ?_
        obtain rfl := z_inj1 hf
        exact z_iret X hr hlk hP hD hS dX9_waiting_37
      · have hf := ite_f hf c1
        refine lv_iload_n X.1 X.2.1 dX9_waiting_12 rfl (lv_at hl 1 rfl) ?_
        refine lv_aload_n X.1 X.2.1 dX9_waiting_13 rfl (lv_at hl 0 rfl) ?_
        refine lv_iload_n X.1 X.2.1 dX9_waiting_14 rfl (lv_at hl 2 rfl) ?_
        obtain ⟨r2, hc3, hf⟩ := bd1_e hf
        refine z_V (n := 1) (As := [.int n4_1]) (rest := [.int n4_0]) (ci := 9) (q0 := 0) X hK hN (kX9_isWaiting l D K aM s0 _ n4_1 r2 hc3) (bw_V W21_15 W21_16 W21_17 W1_5 W21_18) rfl ⟨rfl, rfl⟩ (by decide +kernel) rfl ⟨Nat.le_of_ble_eq_true rfl, Nat.le_of_ble_eq_true rfl⟩ hP hD rfl rfl (zj_same hD hS hA) hS hl.1 rfl (Nat.le_of_ble_eq_true rfl) dX9_waiting_15 ⟨Nat.zero_le _, Nat.zero_le _⟩ rfl (fun H locs hP hD hS => ?_)
        refine lv_if_eq (tgt := 27) X.1 X.2.1 dX9_waiting_18 (by decide) (fun c4 => ?_) (fun c4 => ?_)
        · have hf := ite_t hf c4
          refine lv_iconst (v := 0) X.1 X.2.1 dX9_waiting_27 (by decide) ?_
          refine lv_ior X.1 X.2.1 dX9_waiting_28 ?_
          obtain ⟨w5, ew5, hf⟩ := stp_e hf
          refine z_top ew5 ?_
          refine lv_istore_n (lv' := [(1, .int w5), (0, .ref (aM 0)), (2, .int n4_1)]) X.1 X.2.1 dX9_waiting_29 rfl hl (by decide) rfl (fun ls hl => ?_)
          obtain ⟨w6, ew6, hf⟩ := stp_e hf
          refine lv_iinc (v := w6) (lv' := [(2, .int w6), (1, .int w5), (0, .ref (aM 0))]) X.1 X.2.1 dX9_waiting_30 hl (k := 2) rfl (by rw [ew6]; rfl) (by decide) rfl (fun ls hl => ?_)
          refine lv_goto (tgt := 4) X.1 X.2.1 dX9_waiting_33 (by decide) ?_
          exact ih _ _ hf _ _ hP hD hS _ (lv_sub hl [2, 1, 0] rfl)
        · have hf := ite_f hf c4
          refine lv_iconst (v := 1) X.1 X.2.1 dX9_waiting_21 (by decide) ?_
          refine lv_iload_n X.1 X.2.1 dX9_waiting_22 rfl (lv_at hl 2 rfl) ?_
          refine lv_ishl X.1 X.2.1 dX9_waiting_23 ?_
          refine lv_goto (tgt := 28) X.1 X.2.1 dX9_waiting_24 (by decide) ?_
          refine lv_ior X.1 X.2.1 dX9_waiting_28 ?_
          obtain ⟨w7, ew7, hf⟩ := stp_e hf
          refine z_top ew7 ?_
          refine lv_istore_n (lv' := [(1, .int w7), (0, .ref (aM 0)), (2, .int n4_1)]) X.1 X.2.1 dX9_waiting_29 rfl hl (by decide) rfl (fun ls hl => ?_)
          obtain ⟨w8, ew8, hf⟩ := stp_e hf
          refine lv_iinc (v := w8) (lv' := [(2, .int w8), (1, .int w7), (0, .ref (aM 0))]) X.1 X.2.1 dX9_waiting_30 hl (k := 2) rfl (by rw [ew8]; rfl) (by decide) rfl (fun ls hl => ?_)
          refine lv_goto (tgt := 4) X.1 X.2.1 dX9_waiting_33 (by decide) ?_
          exact ih _ _ hf _ _ hP hD hS _ (lv_sub hl [2, 1, 0] rfl)
  rw [fX9_waiting] at hf
  refine lv_iconst (v := 0) X.1 X.2.1 dX9_waiting_0 (by decide) ?_
  refine lv_istore_n (lv' := [(1, .int 0), (0, .ref (aM 0))]) X.1 X.2.1 dX9_waiting_1 rfl hl (by decide) rfl (fun ls hl => ?_)
  refine lv_iconst (v := 0) X.1 X.2.1 dX9_waiting_2 (by decide) ?_
  refine lv_istore_n (lv' := [(2, .int 0), (1, .int 0), (0, .ref (aM 0))]) X.1 X.2.1 dX9_waiting_3 rfl hl (by decide) rfl (fun ls hl => ?_)
  exact L4_0  _ _ _ hf _ _ hP hD hS _ (lv_sub hl [2, 1, 0] rfl)
abbrev rmX9_haltsHalf : Room := { frames := 3, cells := 0, slots := 0, locals := 65 }
set_option maxHeartbeats 4000000 in
set_option maxRecDepth 100000 in
theorem kX9_haltsHalf (l : Launch) (D : va_G) (K : Nat → ClassId) (aM : Nat → Nat) (s0 : St) (sz : Nat) (x1 : Int32) (s_ : St) (hf : fX9_haltsHalf s0 x1 = some s_) : Met l yX9_haltsHalf (bw (Cond.code yX9_haltsHalf cX9_haltsHalf 3 none)) rmX9_haltsHalf (va_Pc [.ref (aM 0), .int x1] (zB D K sz (wbX9 K aM s0))) (zQ (none) D (va_A (wbX9 K aM s0) sz) (wbX9 K aM s_)) 0 0 (va_A (wbX9 K aM s0) sz) := by
  refine z_of (cc := cX9_haltsHalf) (maxL := 3) (ret := none) (own := RX9) (lv := [(0, .ref (aM 0)), (1, .int x1)]) (by decide) rfl rfl (Nat.le_of_ble_eq_true rfl) rfl ?_
  intro p e s m below meth c X hr hlk hK hN hsz hP hD hA hS hin ls hl
  generalize va_A (wbX9 K aM s0) sz = A at hD hA hS hN ⊢
  have hiX9 : ∀ w ∈ u_ws RX9 TX9 44, w ∈ (bw (Cond.code yX9_haltsHalf cX9_haltsHalf 3 none)) := fun w h => bw_in (inlX9 w h)
  have L24_0 : ∀ (n : Nat), ∀ (n24_0 : Int32) (n24_1 : Int32) (q24_M : St), fX9_haltsHalf_24 n n24_0 n24_1 q24_M = some s_ → ∀ (H : Heap) (locs : List Loc), va_P D vwCl (wbX9 K aM q24_M) H → va_D A (wbX9 K aM q24_M) → va_S A s.heap H locs → ∀ (ls : Array Slot), lv_has ls 3 [(0, .ref (aM 0)), (1, .int n24_0), (2, .int n24_1)] → W p l e rmX9_haltsHalf s m ([.ref (aM 0), .int x1] : List Value).toArray below meth c H locs 0 0 (MQ below (zQ (none) D A (wbX9 K aM s_)) ([.ref (aM 0), .int x1] : List Value).toArray s 0 0 A) (F0 m 24 ls []) := by
    intro n
    induction n with
    | zero =>
      intro n24_0 n24_1 q24_M hf
      rw [fX9_haltsHalf_24] at hf
      cases hf
    | succ n ih =>
      intro n24_0 n24_1 q24_M hf H locs hP hD hS ls hl
      rw [fX9_haltsHalf_24] at hf
      refine lv_iload_n X.1 X.2.1 dX9_haltsHalf_24 rfl (lv_at hl 2 rfl) ?_
      refine lv_aload_n X.1 X.2.1 dX9_haltsHalf_25 rfl (lv_at hl 0 rfl) ?_
      refine z_get X hK hP hiX9 0 rfl rfl 6 (by decide) (bw_in W10_13) rfl dX9_haltsHalf_26 ?_
      refine lv_icmp_ge (tgt := 95) X.1 X.2.1 dX9_haltsHalf_29 (by decide) (fun c3 => ?_) (fun c3 => ?_)
      · have hf := ite_t hf c3
        refine lv_aload_n X.1 X.2.1 dX9_haltsHalf_95 rfl (lv_at hl 0 rfl) ?_
        obtain ⟨s4, hc5, hf⟩ := bd1_e hf
        refine z_V (n := 0) (As := []) (rest := []) (ci := 9) (q0 := 0) X hK hN (kX9_notes l D K aM q24_M _ s4 hc5) (bw_V W21_0 W21_1 W21_2 W1_5 W21_3) rfl ⟨rfl, rfl⟩ (by decide +kernel) rfl ⟨Nat.le_of_ble_eq_true rfl, Nat.le_of_ble_eq_true rfl⟩ hP hD rfl rfl (zj_same hD hS hA) hS hl.1 rfl (Nat.le_of_ble_eq_true rfl) dX9_haltsHalf_96 ⟨Nat.zero_le _, Nat.zero_le _⟩ rfl (fun H locs hP hD hS => ?_)
        obtain rfl := z_inj1 hf
        exact z_vret X hr hlk hP hD hS dX9_haltsHalf_99
      · have hf := ite_f hf c3
        refine lv_iload_n X.1 X.2.1 dX9_haltsHalf_32 rfl (lv_at hl 1 rfl) ?_
        refine lv_iload_n X.1 X.2.1 dX9_haltsHalf_33 rfl (lv_at hl 2 rfl) ?_
        obtain ⟨r6, hc7, hf⟩ := bd1_e hf
        refine z_S (n := 2) (As := [.int n24_0, .int n24_1]) (rest := []) X hK hN (kX9_isIn l D K _ n24_0 n24_1 r6 hc7) (bw_S W21_8 W21_9 W1_5 W21_10) rfl ⟨rfl, rfl⟩ (by decide +kernel) rfl ⟨Nat.le_of_ble_eq_true rfl, Nat.le_of_ble_eq_true rfl⟩ (fun _ _ h => by simp at h) ⟨fun _ _ _ _ h => by simp at h, fun _ _ h => by simp at h⟩ (zj_none hP hD hS hA) hS hl.1 rfl (Nat.le_of_ble_eq_true rfl) dX9_haltsHalf_34 ⟨Nat.zero_le _, Nat.zero_le _⟩ rfl (fun H locs hP hD hS => ?_)
        refine lv_if_eq (tgt := 89) X.1 X.2.1 dX9_haltsHalf_37 (by decide) (fun c8 => ?_) (fun c8 => ?_)
        · have hf := ite_t hf c8
          obtain ⟨w9, ew9, hf⟩ := stp_e hf
          refine lv_iinc (v := w9) (lv' := [(2, .int w9), (0, .ref (aM 0)), (1, .int n24_0)]) X.1 X.2.1 dX9_haltsHalf_89 hl (k := 2) rfl (by rw [ew9]; rfl) (by decide) rfl (fun ls hl => ?_)
          refine lv_goto (tgt := 24) X.1 X.2.1 dX9_haltsHalf_92 (by decide) ?_
          exact ih _ _ _ hf _ _ hP hD hS _ (lv_sub hl [1, 2, 0] rfl)
        · have hf := ite_f hf c8
          refine lv_aload_n X.1 X.2.1 dX9_haltsHalf_40 rfl (lv_at hl 0 rfl) ?_
          obtain ⟨r10, hc11, hf⟩ := bd1_e hf
          refine z_V (n := 0) (As := []) (rest := []) (ci := 9) (q0 := 0) X hK hN (kX9_load l D K aM q24_M _ r10 hc11) (bw_V W21_4 W21_5 W21_6 W1_5 W21_7) rfl ⟨rfl, rfl⟩ (by decide +kernel) rfl ⟨Nat.le_of_ble_eq_true rfl, Nat.le_of_ble_eq_true rfl⟩ hP hD rfl rfl (zj_same hD hS hA) hS hl.1 rfl (Nat.le_of_ble_eq_true rfl) dX9_haltsHalf_41 ⟨Nat.zero_le _, Nat.zero_le _⟩ rfl (fun H locs hP hD hS => ?_)
          refine lv_aload_n X.1 X.2.1 dX9_haltsHalf_44 rfl (lv_at hl 0 rfl) ?_
          refine z_get X hK hP hiX9 0 rfl rfl 3 (by decide) (bw_in W6_18) rfl dX9_haltsHalf_45 ?_
          refine lv_aload_n X.1 X.2.1 dX9_haltsHalf_48 rfl (lv_at hl 0 rfl) ?_
          refine z_get X hK hP hiX9 0 rfl rfl 8 (by decide) (bw_in W6_22) rfl dX9_haltsHalf_49 ?_
          refine lv_iload_n X.1 X.2.1 dX9_haltsHalf_52 rfl (lv_at hl 2 rfl) ?_
          obtain ⟨hi13, hf⟩ := chk_e hf
          obtain ⟨v12, ev12, hf⟩ := stp_e hf
          refine z_iald X hK hP 7 rfl hi13 ev12 dX9_haltsHalf_53 ?_
          obtain ⟨hi15, hf⟩ := chk_e hf
          obtain ⟨v14, ev14, hf⟩ := stp_e hf
          refine z_iald X hK hP 3 rfl hi15 ev14 dX9_haltsHalf_54 ?_
          refine lv_iconst (v := 2) X.1 X.2.1 dX9_haltsHalf_55 (by decide) ?_
          refine lv_idiv X.1 X.2.1 dX9_haltsHalf_56 (by decide) ?_
          refine lv_iadd X.1 X.2.1 dX9_haltsHalf_57 ?_
          refine lv_aload_n X.1 X.2.1 dX9_haltsHalf_58 rfl (lv_at hl 0 rfl) ?_
          refine z_get X hK hP hiX9 0 rfl rfl 12 (by decide) (bw_in W7_21) rfl dX9_haltsHalf_59 ?_
          refine lv_icmp_gt (tgt := 89) X.1 X.2.1 dX9_haltsHalf_62 (by decide) (fun c16 => ?_) (fun c16 => ?_)
          · have hf := ite_t hf c16
            obtain ⟨w17, ew17, hf⟩ := stp_e hf
            refine lv_iinc (v := w17) (lv' := [(2, .int w17), (0, .ref (aM 0)), (1, .int n24_0)]) X.1 X.2.1 dX9_haltsHalf_89 hl (k := 2) rfl (by rw [ew17]; rfl) (by decide) rfl (fun ls hl => ?_)
            refine lv_goto (tgt := 24) X.1 X.2.1 dX9_haltsHalf_92 (by decide) ?_
            exact ih _ _ _ hf _ _ hP hD hS _ (lv_sub hl [1, 2, 0] rfl)
          · have hf := ite_f hf c16
            refine lv_aload_n X.1 X.2.1 dX9_haltsHalf_65 rfl (lv_at hl 0 rfl) ?_
            refine lv_dup X.1 X.2.1 dX9_haltsHalf_66 rfl ?_
            refine z_get X hK hP hiX9 0 rfl rfl 19 (by decide) (bw_in W20_19) rfl dX9_haltsHalf_67 ?_
            refine lv_iconst (v := 1) X.1 X.2.1 dX9_haltsHalf_70 (by decide) ?_
            refine lv_iload_n X.1 X.2.1 dX9_haltsHalf_71 rfl (lv_at hl 2 rfl) ?_
            refine lv_ishl X.1 X.2.1 dX9_haltsHalf_72 ?_
            refine lv_ior X.1 X.2.1 dX9_haltsHalf_73 ?_
            obtain ⟨s18, es18, hf⟩ := stp_e hf
            refine z_put (ws' := wbX9 K aM s18) X hK hP hD hS hiX9 tyX9_ok nmX9 0 rfl rfl 19 (by decide) (bw_in W20_19) rfl rfl rfl (Nat.le_of_ble_eq_true rfl) dX9_haltsHalf_74 (by rw [es18]; rfl) (fun H locs hP hD hS => ?_)
            refine lv_aload_n X.1 X.2.1 dX9_haltsHalf_77 rfl (lv_at hl 0 rfl) ?_
            refine lv_dup X.1 X.2.1 dX9_haltsHalf_78 rfl ?_
            refine z_get X hK hP hiX9 0 rfl rfl 21 (by decide) (bw_in W20_21) rfl dX9_haltsHalf_79 ?_
            refine lv_iconst (v := 1) X.1 X.2.1 dX9_haltsHalf_82 (by decide) ?_
            refine lv_iload_n X.1 X.2.1 dX9_haltsHalf_83 rfl (lv_at hl 2 rfl) ?_
            refine lv_ishl X.1 X.2.1 dX9_haltsHalf_84 ?_
            refine lv_ior X.1 X.2.1 dX9_haltsHalf_85 ?_
            obtain ⟨s19, es19, hf⟩ := stp_e hf
            refine z_put (ws' := wbX9 K aM s19) X hK hP hD hS hiX9 tyX9_ok nmX9 0 rfl rfl 21 (by decide) (bw_in W20_21) rfl rfl rfl (Nat.le_of_ble_eq_true rfl) dX9_haltsHalf_86 (by rw [es19]; rfl) (fun H locs hP hD hS => ?_)
            obtain ⟨w20, ew20, hf⟩ := stp_e hf
            refine lv_iinc (v := w20) (lv' := [(2, .int w20), (0, .ref (aM 0)), (1, .int n24_0)]) X.1 X.2.1 dX9_haltsHalf_89 hl (k := 2) rfl (by rw [ew20]; rfl) (by decide) rfl (fun ls hl => ?_)
            refine lv_goto (tgt := 24) X.1 X.2.1 dX9_haltsHalf_92 (by decide) ?_
            exact ih _ _ _ hf _ _ hP hD hS _ (lv_sub hl [1, 2, 0] rfl)
  rw [fX9_haltsHalf] at hf
  refine lv_aload_n X.1 X.2.1 dX9_haltsHalf_0 rfl (lv_at hl 0 rfl) ?_
  refine lv_dup X.1 X.2.1 dX9_haltsHalf_1 rfl ?_
  refine z_get X hK hP hiX9 0 rfl rfl 16 (by decide) (bw_in W19_22) rfl dX9_haltsHalf_2 ?_
  refine lv_iconst (v := 1) X.1 X.2.1 dX9_haltsHalf_5 (by decide) ?_
  refine lv_iadd X.1 X.2.1 dX9_haltsHalf_6 ?_
  obtain ⟨s1, es1, hf⟩ := stp_e hf
  refine z_put (ws' := wbX9 K aM s1) X hK hP hD hS hiX9 tyX9_ok nmX9 0 rfl rfl 16 (by decide) (bw_in W19_22) rfl rfl rfl (Nat.le_of_ble_eq_true rfl) dX9_haltsHalf_7 (by rw [es1]; rfl) (fun H locs hP hD hS => ?_)
  refine lv_aload_n X.1 X.2.1 dX9_haltsHalf_10 rfl (lv_at hl 0 rfl) ?_
  refine lv_iconst (v := 2) X.1 X.2.1 dX9_haltsHalf_11 (by decide) ?_
  refine lv_aload_n X.1 X.2.1 dX9_haltsHalf_12 rfl (lv_at hl 0 rfl) ?_
  refine z_get X hK hP hiX9 0 rfl rfl 11 (by decide) (bw_in W7_20) rfl dX9_haltsHalf_13 ?_
  refine lv_imul X.1 X.2.1 dX9_haltsHalf_16 ?_
  refine lv_iconst (v := 1) X.1 X.2.1 dX9_haltsHalf_17 (by decide) ?_
  refine lv_iadd X.1 X.2.1 dX9_haltsHalf_18 ?_
  obtain ⟨s2, es2, hf⟩ := stp_e hf
  refine z_put (ws' := wbX9 K aM s2) X hK hP hD hS hiX9 tyX9_ok nmX9 0 rfl rfl 17 (by decide) (bw_in W20_13) rfl rfl rfl (Nat.le_of_ble_eq_true rfl) dX9_haltsHalf_19 (by rw [es2]; rfl) (fun H locs hP hD hS => ?_)
  refine lv_iconst (v := 0) X.1 X.2.1 dX9_haltsHalf_22 (by decide) ?_
  refine lv_istore_n (lv' := [(2, .int 0), (0, .ref (aM 0)), (1, .int x1)]) X.1 X.2.1 dX9_haltsHalf_23 rfl hl (by decide) rfl (fun ls hl => ?_)
  exact L24_0  _ _ _ _ hf _ _ hP hD hS _ (lv_sub hl [1, 2, 0] rfl)
abbrev rmX9_runs : Room := { frames := 4, cells := 0, slots := 0, locals := 87 }
set_option maxHeartbeats 4000000 in
set_option maxRecDepth 100000 in
theorem kX9_runs (l : Launch) (D : va_G) (K : Nat → ClassId) (aM : Nat → Nat) (s0 : St) (sz : Nat)  (s_ : St) (hf : fX9_runs s0 = some s_) : Met l yX9_runs (bw (Cond.code yX9_runs cX9_runs 7 none)) rmX9_runs (va_Pc [.ref (aM 0)] (zB D K sz (wbX9 K aM s0))) (zQ (none) D (va_A (wbX9 K aM s0) sz) (wbX9 K aM s_)) 0 0 (va_A (wbX9 K aM s0) sz) := by
  refine z_of (cc := cX9_runs) (maxL := 7) (ret := none) (own := RX9) (lv := [(0, .ref (aM 0))]) (by decide) rfl rfl (Nat.le_of_ble_eq_true rfl) rfl ?_
  intro p e s m below meth c X hr hlk hK hN hsz hP hD hA hS hin ls hl
  generalize va_A (wbX9 K aM s0) sz = A at hD hA hS hN ⊢
  have hiX9 : ∀ w ∈ u_ws RX9 TX9 44, w ∈ (bw (Cond.code yX9_runs cX9_runs 7 none)) := fun w h => bw_in (inlX9 w h)
  have L23_1 : ∀ (rec8 : Int32 → Int32 → St → Option (St)) (hrec8 : ∀ (n8_0 : Int32) (n8_1 : Int32) (q8_M : St), rec8 n8_0 n8_1 q8_M = some s_ → ∀ (H : Heap) (locs : List Loc), va_P D vwCl (wbX9 K aM q8_M) H → va_D A (wbX9 K aM q8_M) → va_S A s.heap H locs → ∀ (ls : Array Slot), lv_has ls 7 [(0, .ref (aM 0)), (1, .int n8_0), (2, .int n8_1)] → W p l e rmX9_runs s m ([.ref (aM 0)] : List Value).toArray below meth c H locs 0 0 (MQ below (zQ (none) D A (wbX9 K aM s_)) ([.ref (aM 0)] : List Value).toArray s 0 0 A) (F0 m 8 ls [])), ∀ (n : Nat), ∀ (n23_0 : Int32) (n23_1 : Int32) (n23_2 : Int32) (q23_M : St), fX9_runs_23 rec8 n n23_0 n23_1 n23_2 q23_M = some s_ → ∀ (H : Heap) (locs : List Loc), va_P D vwCl (wbX9 K aM q23_M) H → va_D A (wbX9 K aM q23_M) → va_S A s.heap H locs → ∀ (ls : Array Slot), lv_has ls 7 [(0, .ref (aM 0)), (1, .int n23_0), (2, .int n23_1), (3, .int n23_2)] → W p l e rmX9_runs s m ([.ref (aM 0)] : List Value).toArray below meth c H locs 0 0 (MQ below (zQ (none) D A (wbX9 K aM s_)) ([.ref (aM 0)] : List Value).toArray s 0 0 A) (F0 m 23 ls []) := by
    intro rec8 hrec8 n
    induction n with
    | zero =>
      intro n23_0 n23_1 n23_2 q23_M hf
      rw [fX9_runs_23] at hf
      cases hf
    | succ n ih =>
      intro n23_0 n23_1 n23_2 q23_M hf H locs hP hD hS ls hl
      rw [fX9_runs_23] at hf
      refine lv_iload_n X.1 X.2.1 dX9_runs_23 rfl (lv_at hl 1 rfl) ?_
      refine lv_iload_n X.1 X.2.1 dX9_runs_24 rfl (lv_at hl 3 rfl) ?_
      refine lv_icmp_eq (tgt := 115) X.1 X.2.1 dX9_runs_25 (by decide) (fun c6 => ?_) (fun c6 => ?_)
      · have hf := ite_t hf c6
        refine lv_aload_n X.1 X.2.1 dX9_runs_115 rfl (lv_at hl 0 rfl) ?_
        refine lv_iload_n X.1 X.2.1 dX9_runs_116 rfl (lv_at hl 1 rfl) ?_
        obtain ⟨s7, hc8, hf⟩ := bd1_e hf
        refine z_V (n := 1) (As := [.int n23_0]) (rest := []) (ci := 9) (q0 := 0) X hK hN (kX9_haltsAt l D K aM q23_M _ n23_0 s7 hc8) (bw_V W21_23 W22_0 W22_1 W1_5 W22_2) rfl ⟨rfl, rfl⟩ (by decide +kernel) rfl ⟨Nat.le_of_ble_eq_true rfl, Nat.le_of_ble_eq_true rfl⟩ hP hD rfl rfl (zj_same hD hS hA) hS hl.1 rfl (Nat.le_of_ble_eq_true rfl) dX9_runs_117 ⟨Nat.zero_le _, Nat.zero_le _⟩ rfl (fun H locs hP hD hS => ?_)
        obtain ⟨w9, ew9, hf⟩ := stp_e hf
        refine lv_iinc (v := w9) (lv' := [(2, .int w9), (0, .ref (aM 0)), (1, .int n23_0), (3, .int n23_2)]) X.1 X.2.1 dX9_runs_120 hl (k := 2) rfl (by rw [ew9]; rfl) (by decide) rfl (fun ls hl => ?_)
        refine lv_goto (tgt := 8) X.1 X.2.1 dX9_runs_123 (by decide) ?_
        exact hrec8 _ _ _ hf _ _ hP hD hS _ (lv_sub hl [1, 2, 0] rfl)
      · have hf := ite_f hf c6
        refine lv_iload_n X.1 X.2.1 dX9_runs_28 rfl (lv_at hl 1 rfl) ?_
        refine lv_iload_n X.1 X.2.1 dX9_runs_29 rfl (lv_at hl 3 rfl) ?_
        refine lv_icmp_ge (tgt := 39) X.1 X.2.1 dX9_runs_30 (by decide) (fun c10 => ?_) (fun c10 => ?_)
        · have hf := ite_t hf c10
          refine lv_iload_n X.1 X.2.1 dX9_runs_39 rfl (lv_at hl 1 rfl) ?_
          refine lv_iconst (v := 1) X.1 X.2.1 dX9_runs_40 (by decide) ?_
          refine lv_isub X.1 X.2.1 dX9_runs_41 ?_
          obtain ⟨w11, ew11, hf⟩ := stp_e hf
          refine z_top ew11 ?_
          refine lv_istore (lv' := [(4, .int w11), (0, .ref (aM 0)), (1, .int n23_0), (2, .int n23_1), (3, .int n23_2)]) X.1 X.2.1 dX9_runs_42 hl (by decide) rfl (fun ls hl => ?_)
          refine lv_iload_n X.1 X.2.1 dX9_runs_44 rfl (lv_at hl 2 rfl) ?_
          refine lv_iload X.1 X.2.1 dX9_runs_45 (lv_at hl 0 rfl) ?_
          refine lv_icmp_ge (tgt := 54) X.1 X.2.1 dX9_runs_47 (by decide) (fun c12 => ?_) (fun c12 => ?_)
          · have hf := ite_t hf c12
            refine lv_iload X.1 X.2.1 dX9_runs_54 (lv_at hl 0 rfl) ?_
            refine lv_istore (lv' := [(5, .int w11), (4, .int w11), (0, .ref (aM 0)), (1, .int n23_0), (2, .int n23_1), (3, .int n23_2)]) X.1 X.2.1 dX9_runs_56 hl (by decide) rfl (fun ls hl => ?_)
            refine lv_iload X.1 X.2.1 dX9_runs_58 (lv_at hl 0 rfl) ?_
            refine lv_aload_n X.1 X.2.1 dX9_runs_60 rfl (lv_at hl 2 rfl) ?_
            refine z_get X hK hP hiX9 0 rfl rfl 11 (by decide) (bw_in W7_20) rfl dX9_runs_61 ?_
            refine lv_icmp_ne (tgt := 74) X.1 X.2.1 dX9_runs_64 (by decide) (fun c13 => ?_) (fun c13 => ?_)
            · have hf := ite_f hf c13
              refine lv_iconst (v := 0) X.1 X.2.1 dX9_runs_74 (by decide) ?_
              refine lv_istore (lv' := [(6, .int 0), (5, .int w11), (4, .int w11), (0, .ref (aM 0)), (1, .int n23_0), (2, .int n23_1), (3, .int n23_2)]) X.1 X.2.1 dX9_runs_75 hl (by decide) rfl (fun ls hl => ?_)
              refine lv_iload X.1 X.2.1 dX9_runs_77 (lv_at hl 0 rfl) ?_
              refine lv_if_eq (tgt := 88) X.1 X.2.1 dX9_runs_79 (by decide) (fun _ => ?_) (fun c => absurd c (by decide))
              refine lv_iload X.1 X.2.1 dX9_runs_88 (lv_at hl 2 rfl) ?_
              refine lv_istore_n (lv' := [(1, .int w11), (6, .int 0), (5, .int w11), (4, .int w11), (0, .ref (aM 0)), (2, .int n23_1), (3, .int n23_2)]) X.1 X.2.1 dX9_runs_90 rfl hl (by decide) rfl (fun ls hl => ?_)
              refine lv_aload_n X.1 X.2.1 dX9_runs_91 rfl (lv_at hl 4 rfl) ?_
              refine lv_dup X.1 X.2.1 dX9_runs_92 rfl ?_
              refine z_get X hK hP hiX9 0 rfl rfl 16 (by decide) (bw_in W19_22) rfl dX9_runs_93 ?_
              refine lv_iconst (v := 1) X.1 X.2.1 dX9_runs_96 (by decide) ?_
              refine lv_iadd X.1 X.2.1 dX9_runs_97 ?_
              obtain ⟨s14, es14, hf⟩ := stp_e hf
              refine z_put (ws' := wbX9 K aM s14) X hK hP hD hS hiX9 tyX9_ok nmX9 0 rfl rfl 16 (by decide) (bw_in W19_22) rfl rfl rfl (Nat.le_of_ble_eq_true rfl) dX9_runs_98 (by rw [es14]; rfl) (fun H locs hP hD hS => ?_)
              refine lv_aload_n X.1 X.2.1 dX9_runs_101 rfl (lv_at hl 4 rfl) ?_
              refine lv_iconst (v := 2) X.1 X.2.1 dX9_runs_102 (by decide) ?_
              refine lv_iload_n X.1 X.2.1 dX9_runs_103 rfl (lv_at hl 0 rfl) ?_
              refine lv_imul X.1 X.2.1 dX9_runs_104 ?_
              obtain ⟨s15, es15, hf⟩ := stp_e hf
              refine z_put (ws' := wbX9 K aM s15) X hK hP hD hS hiX9 tyX9_ok nmX9 0 rfl rfl 17 (by decide) (bw_in W20_13) rfl rfl rfl (Nat.le_of_ble_eq_true rfl) dX9_runs_105 (by rw [es15]; rfl) (fun H locs hP hD hS => ?_)
              refine lv_aload_n X.1 X.2.1 dX9_runs_108 rfl (lv_at hl 4 rfl) ?_
              obtain ⟨s16, hc17, hf⟩ := bd1_e hf
              refine z_V (n := 0) (As := []) (rest := []) (ci := 9) (q0 := 0) X hK hN (kX9_notes l D K aM s15 _ s16 hc17) (bw_V W21_0 W21_1 W21_2 W1_5 W21_3) rfl ⟨rfl, rfl⟩ (by decide +kernel) rfl ⟨Nat.le_of_ble_eq_true rfl, Nat.le_of_ble_eq_true rfl⟩ hP hD rfl rfl (zj_same hD hS hA) hS hl.1 rfl (Nat.le_of_ble_eq_true rfl) dX9_runs_109 ⟨Nat.zero_le _, Nat.zero_le _⟩ rfl (fun H locs hP hD hS => ?_)
              refine lv_goto (tgt := 23) X.1 X.2.1 dX9_runs_112 (by decide) ?_
              exact ih _ _ _ _ hf _ _ hP hD hS _ (lv_sub hl [4, 0, 5, 6] rfl)
            · have hf := ite_t hf c13
              refine lv_aload_n X.1 X.2.1 dX9_runs_67 rfl (lv_at hl 2 rfl) ?_
              obtain ⟨r18, hc19, hf⟩ := bd1_e hf
              refine z_V (n := 0) (As := []) (rest := []) (ci := 9) (q0 := 0) X hK hN (kX9_waiting l D K aM q23_M _ r18 hc19) (bw_V W21_11 W21_12 W21_13 W1_5 W21_14) rfl ⟨rfl, rfl⟩ (by decide +kernel) rfl ⟨Nat.le_of_ble_eq_true rfl, Nat.le_of_ble_eq_true rfl⟩ hP hD rfl rfl (zj_same hD hS hA) hS hl.1 rfl (Nat.le_of_ble_eq_true rfl) dX9_runs_68 ⟨Nat.zero_le _, Nat.zero_le _⟩ rfl (fun H locs hP hD hS => ?_)
              refine lv_goto (tgt := 75) X.1 X.2.1 dX9_runs_71 (by decide) ?_
              refine lv_istore (lv' := [(6, .int r18), (5, .int w11), (4, .int w11), (0, .ref (aM 0)), (1, .int n23_0), (2, .int n23_1), (3, .int n23_2)]) X.1 X.2.1 dX9_runs_75 hl (by decide) rfl (fun ls hl => ?_)
              refine lv_iload X.1 X.2.1 dX9_runs_77 (lv_at hl 0 rfl) ?_
              refine lv_if_eq (tgt := 88) X.1 X.2.1 dX9_runs_79 (by decide) (fun c20 => ?_) (fun c20 => ?_)
              · have hf := ite_t hf c20
                refine lv_iload X.1 X.2.1 dX9_runs_88 (lv_at hl 2 rfl) ?_
                refine lv_istore_n (lv' := [(1, .int w11), (6, .int r18), (5, .int w11), (4, .int w11), (0, .ref (aM 0)), (2, .int n23_1), (3, .int n23_2)]) X.1 X.2.1 dX9_runs_90 rfl hl (by decide) rfl (fun ls hl => ?_)
                refine lv_aload_n X.1 X.2.1 dX9_runs_91 rfl (lv_at hl 4 rfl) ?_
                refine lv_dup X.1 X.2.1 dX9_runs_92 rfl ?_
                refine z_get X hK hP hiX9 0 rfl rfl 16 (by decide) (bw_in W19_22) rfl dX9_runs_93 ?_
                refine lv_iconst (v := 1) X.1 X.2.1 dX9_runs_96 (by decide) ?_
                refine lv_iadd X.1 X.2.1 dX9_runs_97 ?_
                obtain ⟨s21, es21, hf⟩ := stp_e hf
                refine z_put (ws' := wbX9 K aM s21) X hK hP hD hS hiX9 tyX9_ok nmX9 0 rfl rfl 16 (by decide) (bw_in W19_22) rfl rfl rfl (Nat.le_of_ble_eq_true rfl) dX9_runs_98 (by rw [es21]; rfl) (fun H locs hP hD hS => ?_)
                refine lv_aload_n X.1 X.2.1 dX9_runs_101 rfl (lv_at hl 4 rfl) ?_
                refine lv_iconst (v := 2) X.1 X.2.1 dX9_runs_102 (by decide) ?_
                refine lv_iload_n X.1 X.2.1 dX9_runs_103 rfl (lv_at hl 0 rfl) ?_
                refine lv_imul X.1 X.2.1 dX9_runs_104 ?_
                obtain ⟨s22, es22, hf⟩ := stp_e hf
                refine z_put (ws' := wbX9 K aM s22) X hK hP hD hS hiX9 tyX9_ok nmX9 0 rfl rfl 17 (by decide) (bw_in W20_13) rfl rfl rfl (Nat.le_of_ble_eq_true rfl) dX9_runs_105 (by rw [es22]; rfl) (fun H locs hP hD hS => ?_)
                refine lv_aload_n X.1 X.2.1 dX9_runs_108 rfl (lv_at hl 4 rfl) ?_
                obtain ⟨s23, hc24, hf⟩ := bd1_e hf
                refine z_V (n := 0) (As := []) (rest := []) (ci := 9) (q0 := 0) X hK hN (kX9_notes l D K aM s22 _ s23 hc24) (bw_V W21_0 W21_1 W21_2 W1_5 W21_3) rfl ⟨rfl, rfl⟩ (by decide +kernel) rfl ⟨Nat.le_of_ble_eq_true rfl, Nat.le_of_ble_eq_true rfl⟩ hP hD rfl rfl (zj_same hD hS hA) hS hl.1 rfl (Nat.le_of_ble_eq_true rfl) dX9_runs_109 ⟨Nat.zero_le _, Nat.zero_le _⟩ rfl (fun H locs hP hD hS => ?_)
                refine lv_goto (tgt := 23) X.1 X.2.1 dX9_runs_112 (by decide) ?_
                exact ih _ _ _ _ hf _ _ hP hD hS _ (lv_sub hl [4, 0, 5, 6] rfl)
              · have hf := ite_f hf c20
                refine lv_aload_n X.1 X.2.1 dX9_runs_82 rfl (lv_at hl 3 rfl) ?_
                refine lv_iload X.1 X.2.1 dX9_runs_83 (lv_at hl 0 rfl) ?_
                obtain ⟨s25, hc26, hf⟩ := bd1_e hf
                refine z_V (n := 1) (As := [.int r18]) (rest := []) (ci := 9) (q0 := 0) X hK hN (kX9_haltsHalf l D K aM q23_M _ r18 s25 hc26) (bw_V W21_19 W21_20 W21_21 W1_5 W21_22) rfl ⟨rfl, rfl⟩ (by decide +kernel) rfl ⟨Nat.le_of_ble_eq_true rfl, Nat.le_of_ble_eq_true rfl⟩ hP hD rfl rfl (zj_same hD hS hA) hS hl.1 rfl (Nat.le_of_ble_eq_true rfl) dX9_runs_85 ⟨Nat.zero_le _, Nat.zero_le _⟩ rfl (fun H locs hP hD hS => ?_)
                refine lv_iload X.1 X.2.1 dX9_runs_88 (lv_at hl 2 rfl) ?_
                refine lv_istore_n (lv' := [(1, .int w11), (6, .int r18), (5, .int w11), (4, .int w11), (0, .ref (aM 0)), (2, .int n23_1), (3, .int n23_2)]) X.1 X.2.1 dX9_runs_90 rfl hl (by decide) rfl (fun ls hl => ?_)
                refine lv_aload_n X.1 X.2.1 dX9_runs_91 rfl (lv_at hl 4 rfl) ?_
                refine lv_dup X.1 X.2.1 dX9_runs_92 rfl ?_
                refine z_get X hK hP hiX9 0 rfl rfl 16 (by decide) (bw_in W19_22) rfl dX9_runs_93 ?_
                refine lv_iconst (v := 1) X.1 X.2.1 dX9_runs_96 (by decide) ?_
                refine lv_iadd X.1 X.2.1 dX9_runs_97 ?_
                obtain ⟨s27, es27, hf⟩ := stp_e hf
                refine z_put (ws' := wbX9 K aM s27) X hK hP hD hS hiX9 tyX9_ok nmX9 0 rfl rfl 16 (by decide) (bw_in W19_22) rfl rfl rfl (Nat.le_of_ble_eq_true rfl) dX9_runs_98 (by rw [es27]; rfl) (fun H locs hP hD hS => ?_)
                refine lv_aload_n X.1 X.2.1 dX9_runs_101 rfl (lv_at hl 4 rfl) ?_
                refine lv_iconst (v := 2) X.1 X.2.1 dX9_runs_102 (by decide) ?_
                refine lv_iload_n X.1 X.2.1 dX9_runs_103 rfl (lv_at hl 0 rfl) ?_
                refine lv_imul X.1 X.2.1 dX9_runs_104 ?_
                obtain ⟨s28, es28, hf⟩ := stp_e hf
                refine z_put (ws' := wbX9 K aM s28) X hK hP hD hS hiX9 tyX9_ok nmX9 0 rfl rfl 17 (by decide) (bw_in W20_13) rfl rfl rfl (Nat.le_of_ble_eq_true rfl) dX9_runs_105 (by rw [es28]; rfl) (fun H locs hP hD hS => ?_)
                refine lv_aload_n X.1 X.2.1 dX9_runs_108 rfl (lv_at hl 4 rfl) ?_
                obtain ⟨s29, hc30, hf⟩ := bd1_e hf
                refine z_V (n := 0) (As := []) (rest := []) (ci := 9) (q0 := 0) X hK hN (kX9_notes l D K aM s28 _ s29 hc30) (bw_V W21_0 W21_1 W21_2 W1_5 W21_3) rfl ⟨rfl, rfl⟩ (by decide +kernel) rfl ⟨Nat.le_of_ble_eq_true rfl, Nat.le_of_ble_eq_true rfl⟩ hP hD rfl rfl (zj_same hD hS hA) hS hl.1 rfl (Nat.le_of_ble_eq_true rfl) dX9_runs_109 ⟨Nat.zero_le _, Nat.zero_le _⟩ rfl (fun H locs hP hD hS => ?_)
                refine lv_goto (tgt := 23) X.1 X.2.1 dX9_runs_112 (by decide) ?_
                exact ih _ _ _ _ hf _ _ hP hD hS _ (lv_sub hl [4, 0, 5, 6] rfl)
          · have hf := ite_f hf c12
            refine lv_iload_n X.1 X.2.1 dX9_runs_50 rfl (lv_at hl 2 rfl) ?_
            refine lv_goto (tgt := 56) X.1 X.2.1 dX9_runs_51 (by decide) ?_
            refine lv_istore (lv' := [(5, .int n23_0), (4, .int w11), (0, .ref (aM 0)), (1, .int n23_0), (2, .int n23_1), (3, .int n23_2)]) X.1 X.2.1 dX9_runs_56 hl (by decide) rfl (fun ls hl => ?_)
            refine lv_iload X.1 X.2.1 dX9_runs_58 (lv_at hl 0 rfl) ?_
            refine lv_aload_n X.1 X.2.1 dX9_runs_60 rfl (lv_at hl 2 rfl) ?_
            refine z_get X hK hP hiX9 0 rfl rfl 11 (by decide) (bw_in W7_20) rfl dX9_runs_61 ?_
            refine lv_icmp_ne (tgt := 74) X.1 X.2.1 dX9_runs_64 (by decide) (fun c31 => ?_) (fun c31 => ?_)
            · have hf := ite_f hf c31
              refine lv_iconst (v := 0) X.1 X.2.1 dX9_runs_74 (by decide) ?_
              refine lv_istore (lv' := [(6, .int 0), (5, .int n23_0), (4, .int w11), (0, .ref (aM 0)), (1, .int n23_0), (2, .int n23_1), (3, .int n23_2)]) X.1 X.2.1 dX9_runs_75 hl (by decide) rfl (fun ls hl => ?_)
              refine lv_iload X.1 X.2.1 dX9_runs_77 (lv_at hl 0 rfl) ?_
              refine lv_if_eq (tgt := 88) X.1 X.2.1 dX9_runs_79 (by decide) (fun _ => ?_) (fun c => absurd c (by decide))
              refine lv_iload X.1 X.2.1 dX9_runs_88 (lv_at hl 2 rfl) ?_
              refine lv_istore_n (lv' := [(1, .int w11), (6, .int 0), (5, .int n23_0), (4, .int w11), (0, .ref (aM 0)), (2, .int n23_1), (3, .int n23_2)]) X.1 X.2.1 dX9_runs_90 rfl hl (by decide) rfl (fun ls hl => ?_)
              refine lv_aload_n X.1 X.2.1 dX9_runs_91 rfl (lv_at hl 4 rfl) ?_
              refine lv_dup X.1 X.2.1 dX9_runs_92 rfl ?_
              refine z_get X hK hP hiX9 0 rfl rfl 16 (by decide) (bw_in W19_22) rfl dX9_runs_93 ?_
              refine lv_iconst (v := 1) X.1 X.2.1 dX9_runs_96 (by decide) ?_
              refine lv_iadd X.1 X.2.1 dX9_runs_97 ?_
              obtain ⟨s32, es32, hf⟩ := stp_e hf
              refine z_put (ws' := wbX9 K aM s32) X hK hP hD hS hiX9 tyX9_ok nmX9 0 rfl rfl 16 (by decide) (bw_in W19_22) rfl rfl rfl (Nat.le_of_ble_eq_true rfl) dX9_runs_98 (by rw [es32]; rfl) (fun H locs hP hD hS => ?_)
              refine lv_aload_n X.1 X.2.1 dX9_runs_101 rfl (lv_at hl 4 rfl) ?_
              refine lv_iconst (v := 2) X.1 X.2.1 dX9_runs_102 (by decide) ?_
              refine lv_iload_n X.1 X.2.1 dX9_runs_103 rfl (lv_at hl 0 rfl) ?_
              refine lv_imul X.1 X.2.1 dX9_runs_104 ?_
              obtain ⟨s33, es33, hf⟩ := stp_e hf
              refine z_put (ws' := wbX9 K aM s33) X hK hP hD hS hiX9 tyX9_ok nmX9 0 rfl rfl 17 (by decide) (bw_in W20_13) rfl rfl rfl (Nat.le_of_ble_eq_true rfl) dX9_runs_105 (by rw [es33]; rfl) (fun H locs hP hD hS => ?_)
              refine lv_aload_n X.1 X.2.1 dX9_runs_108 rfl (lv_at hl 4 rfl) ?_
              obtain ⟨s34, hc35, hf⟩ := bd1_e hf
              refine z_V (n := 0) (As := []) (rest := []) (ci := 9) (q0 := 0) X hK hN (kX9_notes l D K aM s33 _ s34 hc35) (bw_V W21_0 W21_1 W21_2 W1_5 W21_3) rfl ⟨rfl, rfl⟩ (by decide +kernel) rfl ⟨Nat.le_of_ble_eq_true rfl, Nat.le_of_ble_eq_true rfl⟩ hP hD rfl rfl (zj_same hD hS hA) hS hl.1 rfl (Nat.le_of_ble_eq_true rfl) dX9_runs_109 ⟨Nat.zero_le _, Nat.zero_le _⟩ rfl (fun H locs hP hD hS => ?_)
              refine lv_goto (tgt := 23) X.1 X.2.1 dX9_runs_112 (by decide) ?_
              exact ih _ _ _ _ hf _ _ hP hD hS _ (lv_sub hl [4, 0, 5, 6] rfl)
            · have hf := ite_t hf c31
              refine lv_aload_n X.1 X.2.1 dX9_runs_67 rfl (lv_at hl 2 rfl) ?_
              obtain ⟨r36, hc37, hf⟩ := bd1_e hf
              refine z_V (n := 0) (As := []) (rest := []) (ci := 9) (q0 := 0) X hK hN (kX9_waiting l D K aM q23_M _ r36 hc37) (bw_V W21_11 W21_12 W21_13 W1_5 W21_14) rfl ⟨rfl, rfl⟩ (by decide +kernel) rfl ⟨Nat.le_of_ble_eq_true rfl, Nat.le_of_ble_eq_true rfl⟩ hP hD rfl rfl (zj_same hD hS hA) hS hl.1 rfl (Nat.le_of_ble_eq_true rfl) dX9_runs_68 ⟨Nat.zero_le _, Nat.zero_le _⟩ rfl (fun H locs hP hD hS => ?_)
              refine lv_goto (tgt := 75) X.1 X.2.1 dX9_runs_71 (by decide) ?_
              refine lv_istore (lv' := [(6, .int r36), (5, .int n23_0), (4, .int w11), (0, .ref (aM 0)), (1, .int n23_0), (2, .int n23_1), (3, .int n23_2)]) X.1 X.2.1 dX9_runs_75 hl (by decide) rfl (fun ls hl => ?_)
              refine lv_iload X.1 X.2.1 dX9_runs_77 (lv_at hl 0 rfl) ?_
              refine lv_if_eq (tgt := 88) X.1 X.2.1 dX9_runs_79 (by decide) (fun c38 => ?_) (fun c38 => ?_)
              · have hf := ite_t hf c38
                refine lv_iload X.1 X.2.1 dX9_runs_88 (lv_at hl 2 rfl) ?_
                refine lv_istore_n (lv' := [(1, .int w11), (6, .int r36), (5, .int n23_0), (4, .int w11), (0, .ref (aM 0)), (2, .int n23_1), (3, .int n23_2)]) X.1 X.2.1 dX9_runs_90 rfl hl (by decide) rfl (fun ls hl => ?_)
                refine lv_aload_n X.1 X.2.1 dX9_runs_91 rfl (lv_at hl 4 rfl) ?_
                refine lv_dup X.1 X.2.1 dX9_runs_92 rfl ?_
                refine z_get X hK hP hiX9 0 rfl rfl 16 (by decide) (bw_in W19_22) rfl dX9_runs_93 ?_
                refine lv_iconst (v := 1) X.1 X.2.1 dX9_runs_96 (by decide) ?_
                refine lv_iadd X.1 X.2.1 dX9_runs_97 ?_
                obtain ⟨s39, es39, hf⟩ := stp_e hf
                refine z_put (ws' := wbX9 K aM s39) X hK hP hD hS hiX9 tyX9_ok nmX9 0 rfl rfl 16 (by decide) (bw_in W19_22) rfl rfl rfl (Nat.le_of_ble_eq_true rfl) dX9_runs_98 (by rw [es39]; rfl) (fun H locs hP hD hS => ?_)
                refine lv_aload_n X.1 X.2.1 dX9_runs_101 rfl (lv_at hl 4 rfl) ?_
                refine lv_iconst (v := 2) X.1 X.2.1 dX9_runs_102 (by decide) ?_
                refine lv_iload_n X.1 X.2.1 dX9_runs_103 rfl (lv_at hl 0 rfl) ?_
                refine lv_imul X.1 X.2.1 dX9_runs_104 ?_
                obtain ⟨s40, es40, hf⟩ := stp_e hf
                refine z_put (ws' := wbX9 K aM s40) X hK hP hD hS hiX9 tyX9_ok nmX9 0 rfl rfl 17 (by decide) (bw_in W20_13) rfl rfl rfl (Nat.le_of_ble_eq_true rfl) dX9_runs_105 (by rw [es40]; rfl) (fun H locs hP hD hS => ?_)
                refine lv_aload_n X.1 X.2.1 dX9_runs_108 rfl (lv_at hl 4 rfl) ?_
                obtain ⟨s41, hc42, hf⟩ := bd1_e hf
                refine z_V (n := 0) (As := []) (rest := []) (ci := 9) (q0 := 0) X hK hN (kX9_notes l D K aM s40 _ s41 hc42) (bw_V W21_0 W21_1 W21_2 W1_5 W21_3) rfl ⟨rfl, rfl⟩ (by decide +kernel) rfl ⟨Nat.le_of_ble_eq_true rfl, Nat.le_of_ble_eq_true rfl⟩ hP hD rfl rfl (zj_same hD hS hA) hS hl.1 rfl (Nat.le_of_ble_eq_true rfl) dX9_runs_109 ⟨Nat.zero_le _, Nat.zero_le _⟩ rfl (fun H locs hP hD hS => ?_)
                refine lv_goto (tgt := 23) X.1 X.2.1 dX9_runs_112 (by decide) ?_
                exact ih _ _ _ _ hf _ _ hP hD hS _ (lv_sub hl [4, 0, 5, 6] rfl)
              · have hf := ite_f hf c38
                refine lv_aload_n X.1 X.2.1 dX9_runs_82 rfl (lv_at hl 3 rfl) ?_
                refine lv_iload X.1 X.2.1 dX9_runs_83 (lv_at hl 0 rfl) ?_
                obtain ⟨s43, hc44, hf⟩ := bd1_e hf
                refine z_V (n := 1) (As := [.int r36]) (rest := []) (ci := 9) (q0 := 0) X hK hN (kX9_haltsHalf l D K aM q23_M _ r36 s43 hc44) (bw_V W21_19 W21_20 W21_21 W1_5 W21_22) rfl ⟨rfl, rfl⟩ (by decide +kernel) rfl ⟨Nat.le_of_ble_eq_true rfl, Nat.le_of_ble_eq_true rfl⟩ hP hD rfl rfl (zj_same hD hS hA) hS hl.1 rfl (Nat.le_of_ble_eq_true rfl) dX9_runs_85 ⟨Nat.zero_le _, Nat.zero_le _⟩ rfl (fun H locs hP hD hS => ?_)
                refine lv_iload X.1 X.2.1 dX9_runs_88 (lv_at hl 2 rfl) ?_
                refine lv_istore_n (lv' := [(1, .int w11), (6, .int r36), (5, .int n23_0), (4, .int w11), (0, .ref (aM 0)), (2, .int n23_1), (3, .int n23_2)]) X.1 X.2.1 dX9_runs_90 rfl hl (by decide) rfl (fun ls hl => ?_)
                refine lv_aload_n X.1 X.2.1 dX9_runs_91 rfl (lv_at hl 4 rfl) ?_
                refine lv_dup X.1 X.2.1 dX9_runs_92 rfl ?_
                refine z_get X hK hP hiX9 0 rfl rfl 16 (by decide) (bw_in W19_22) rfl dX9_runs_93 ?_
                refine lv_iconst (v := 1) X.1 X.2.1 dX9_runs_96 (by decide) ?_
                refine lv_iadd X.1 X.2.1 dX9_runs_97 ?_
                obtain ⟨s45, es45, hf⟩ := stp_e hf
                refine z_put (ws' := wbX9 K aM s45) X hK hP hD hS hiX9 tyX9_ok nmX9 0 rfl rfl 16 (by decide) (bw_in W19_22) rfl rfl rfl (Nat.le_of_ble_eq_true rfl) dX9_runs_98 (by rw [es45]; rfl) (fun H locs hP hD hS => ?_)
                refine lv_aload_n X.1 X.2.1 dX9_runs_101 rfl (lv_at hl 4 rfl) ?_
                refine lv_iconst (v := 2) X.1 X.2.1 dX9_runs_102 (by decide) ?_
                refine lv_iload_n X.1 X.2.1 dX9_runs_103 rfl (lv_at hl 0 rfl) ?_
                refine lv_imul X.1 X.2.1 dX9_runs_104 ?_
                obtain ⟨s46, es46, hf⟩ := stp_e hf
                refine z_put (ws' := wbX9 K aM s46) X hK hP hD hS hiX9 tyX9_ok nmX9 0 rfl rfl 17 (by decide) (bw_in W20_13) rfl rfl rfl (Nat.le_of_ble_eq_true rfl) dX9_runs_105 (by rw [es46]; rfl) (fun H locs hP hD hS => ?_)
                refine lv_aload_n X.1 X.2.1 dX9_runs_108 rfl (lv_at hl 4 rfl) ?_
                obtain ⟨s47, hc48, hf⟩ := bd1_e hf
                refine z_V (n := 0) (As := []) (rest := []) (ci := 9) (q0 := 0) X hK hN (kX9_notes l D K aM s46 _ s47 hc48) (bw_V W21_0 W21_1 W21_2 W1_5 W21_3) rfl ⟨rfl, rfl⟩ (by decide +kernel) rfl ⟨Nat.le_of_ble_eq_true rfl, Nat.le_of_ble_eq_true rfl⟩ hP hD rfl rfl (zj_same hD hS hA) hS hl.1 rfl (Nat.le_of_ble_eq_true rfl) dX9_runs_109 ⟨Nat.zero_le _, Nat.zero_le _⟩ rfl (fun H locs hP hD hS => ?_)
                refine lv_goto (tgt := 23) X.1 X.2.1 dX9_runs_112 (by decide) ?_
                exact ih _ _ _ _ hf _ _ hP hD hS _ (lv_sub hl [4, 0, 5, 6] rfl)
        · have hf := ite_f hf c10
          refine lv_iload_n X.1 X.2.1 dX9_runs_33 rfl (lv_at hl 1 rfl) ?_
          refine lv_iconst (v := 1) X.1 X.2.1 dX9_runs_34 (by decide) ?_
          refine lv_iadd X.1 X.2.1 dX9_runs_35 ?_
          refine lv_goto (tgt := 42) X.1 X.2.1 dX9_runs_36 (by decide) ?_
          obtain ⟨w49, ew49, hf⟩ := stp_e hf
          refine z_top ew49 ?_
          refine lv_istore (lv' := [(4, .int w49), (0, .ref (aM 0)), (1, .int n23_0), (2, .int n23_1), (3, .int n23_2)]) X.1 X.2.1 dX9_runs_42 hl (by decide) rfl (fun ls hl => ?_)
          refine lv_iload_n X.1 X.2.1 dX9_runs_44 rfl (lv_at hl 2 rfl) ?_
          refine lv_iload X.1 X.2.1 dX9_runs_45 (lv_at hl 0 rfl) ?_
          refine lv_icmp_ge (tgt := 54) X.1 X.2.1 dX9_runs_47 (by decide) (fun c50 => ?_) (fun c50 => ?_)
          · have hf := ite_t hf c50
            refine lv_iload X.1 X.2.1 dX9_runs_54 (lv_at hl 0 rfl) ?_
            refine lv_istore (lv' := [(5, .int w49), (4, .int w49), (0, .ref (aM 0)), (1, .int n23_0), (2, .int n23_1), (3, .int n23_2)]) X.1 X.2.1 dX9_runs_56 hl (by decide) rfl (fun ls hl => ?_)
            refine lv_iload X.1 X.2.1 dX9_runs_58 (lv_at hl 0 rfl) ?_
            refine lv_aload_n X.1 X.2.1 dX9_runs_60 rfl (lv_at hl 2 rfl) ?_
            refine z_get X hK hP hiX9 0 rfl rfl 11 (by decide) (bw_in W7_20) rfl dX9_runs_61 ?_
            refine lv_icmp_ne (tgt := 74) X.1 X.2.1 dX9_runs_64 (by decide) (fun c51 => ?_) (fun c51 => ?_)
            · have hf := ite_f hf c51
              refine lv_iconst (v := 0) X.1 X.2.1 dX9_runs_74 (by decide) ?_
              refine lv_istore (lv' := [(6, .int 0), (5, .int w49), (4, .int w49), (0, .ref (aM 0)), (1, .int n23_0), (2, .int n23_1), (3, .int n23_2)]) X.1 X.2.1 dX9_runs_75 hl (by decide) rfl (fun ls hl => ?_)
              refine lv_iload X.1 X.2.1 dX9_runs_77 (lv_at hl 0 rfl) ?_
              refine lv_if_eq (tgt := 88) X.1 X.2.1 dX9_runs_79 (by decide) (fun _ => ?_) (fun c => absurd c (by decide))
              refine lv_iload X.1 X.2.1 dX9_runs_88 (lv_at hl 2 rfl) ?_
              refine lv_istore_n (lv' := [(1, .int w49), (6, .int 0), (5, .int w49), (4, .int w49), (0, .ref (aM 0)), (2, .int n23_1), (3, .int n23_2)]) X.1 X.2.1 dX9_runs_90 rfl hl (by decide) rfl (fun ls hl => ?_)
              refine lv_aload_n X.1 X.2.1 dX9_runs_91 rfl (lv_at hl 4 rfl) ?_
              refine lv_dup X.1 X.2.1 dX9_runs_92 rfl ?_
              refine z_get X hK hP hiX9 0 rfl rfl 16 (by decide) (bw_in W19_22) rfl dX9_runs_93 ?_
              refine lv_iconst (v := 1) X.1 X.2.1 dX9_runs_96 (by decide) ?_
              refine lv_iadd X.1 X.2.1 dX9_runs_97 ?_
              obtain ⟨s52, es52, hf⟩ := stp_e hf
              refine z_put (ws' := wbX9 K aM s52) X hK hP hD hS hiX9 tyX9_ok nmX9 0 rfl rfl 16 (by decide) (bw_in W19_22) rfl rfl rfl (Nat.le_of_ble_eq_true rfl) dX9_runs_98 (by rw [es52]; rfl) (fun H locs hP hD hS => ?_)
              refine lv_aload_n X.1 X.2.1 dX9_runs_101 rfl (lv_at hl 4 rfl) ?_
              refine lv_iconst (v := 2) X.1 X.2.1 dX9_runs_102 (by decide) ?_
              refine lv_iload_n X.1 X.2.1 dX9_runs_103 rfl (lv_at hl 0 rfl) ?_
              refine lv_imul X.1 X.2.1 dX9_runs_104 ?_
              obtain ⟨s53, es53, hf⟩ := stp_e hf
              refine z_put (ws' := wbX9 K aM s53) X hK hP hD hS hiX9 tyX9_ok nmX9 0 rfl rfl 17 (by decide) (bw_in W20_13) rfl rfl rfl (Nat.le_of_ble_eq_true rfl) dX9_runs_105 (by rw [es53]; rfl) (fun H locs hP hD hS => ?_)
              refine lv_aload_n X.1 X.2.1 dX9_runs_108 rfl (lv_at hl 4 rfl) ?_
              obtain ⟨s54, hc55, hf⟩ := bd1_e hf
              refine z_V (n := 0) (As := []) (rest := []) (ci := 9) (q0 := 0) X hK hN (kX9_notes l D K aM s53 _ s54 hc55) (bw_V W21_0 W21_1 W21_2 W1_5 W21_3) rfl ⟨rfl, rfl⟩ (by decide +kernel) rfl ⟨Nat.le_of_ble_eq_true rfl, Nat.le_of_ble_eq_true rfl⟩ hP hD rfl rfl (zj_same hD hS hA) hS hl.1 rfl (Nat.le_of_ble_eq_true rfl) dX9_runs_109 ⟨Nat.zero_le _, Nat.zero_le _⟩ rfl (fun H locs hP hD hS => ?_)
              refine lv_goto (tgt := 23) X.1 X.2.1 dX9_runs_112 (by decide) ?_
              exact ih _ _ _ _ hf _ _ hP hD hS _ (lv_sub hl [4, 0, 5, 6] rfl)
            · have hf := ite_t hf c51
              refine lv_aload_n X.1 X.2.1 dX9_runs_67 rfl (lv_at hl 2 rfl) ?_
              obtain ⟨r56, hc57, hf⟩ := bd1_e hf
              refine z_V (n := 0) (As := []) (rest := []) (ci := 9) (q0 := 0) X hK hN (kX9_waiting l D K aM q23_M _ r56 hc57) (bw_V W21_11 W21_12 W21_13 W1_5 W21_14) rfl ⟨rfl, rfl⟩ (by decide +kernel) rfl ⟨Nat.le_of_ble_eq_true rfl, Nat.le_of_ble_eq_true rfl⟩ hP hD rfl rfl (zj_same hD hS hA) hS hl.1 rfl (Nat.le_of_ble_eq_true rfl) dX9_runs_68 ⟨Nat.zero_le _, Nat.zero_le _⟩ rfl (fun H locs hP hD hS => ?_)
              refine lv_goto (tgt := 75) X.1 X.2.1 dX9_runs_71 (by decide) ?_
              refine lv_istore (lv' := [(6, .int r56), (5, .int w49), (4, .int w49), (0, .ref (aM 0)), (1, .int n23_0), (2, .int n23_1), (3, .int n23_2)]) X.1 X.2.1 dX9_runs_75 hl (by decide) rfl (fun ls hl => ?_)
              refine lv_iload X.1 X.2.1 dX9_runs_77 (lv_at hl 0 rfl) ?_
              refine lv_if_eq (tgt := 88) X.1 X.2.1 dX9_runs_79 (by decide) (fun c58 => ?_) (fun c58 => ?_)
              · have hf := ite_t hf c58
                refine lv_iload X.1 X.2.1 dX9_runs_88 (lv_at hl 2 rfl) ?_
                refine lv_istore_n (lv' := [(1, .int w49), (6, .int r56), (5, .int w49), (4, .int w49), (0, .ref (aM 0)), (2, .int n23_1), (3, .int n23_2)]) X.1 X.2.1 dX9_runs_90 rfl hl (by decide) rfl (fun ls hl => ?_)
                refine lv_aload_n X.1 X.2.1 dX9_runs_91 rfl (lv_at hl 4 rfl) ?_
                refine lv_dup X.1 X.2.1 dX9_runs_92 rfl ?_
                refine z_get X hK hP hiX9 0 rfl rfl 16 (by decide) (bw_in W19_22) rfl dX9_runs_93 ?_
                refine lv_iconst (v := 1) X.1 X.2.1 dX9_runs_96 (by decide) ?_
                refine lv_iadd X.1 X.2.1 dX9_runs_97 ?_
                obtain ⟨s59, es59, hf⟩ := stp_e hf
                refine z_put (ws' := wbX9 K aM s59) X hK hP hD hS hiX9 tyX9_ok nmX9 0 rfl rfl 16 (by decide) (bw_in W19_22) rfl rfl rfl (Nat.le_of_ble_eq_true rfl) dX9_runs_98 (by rw [es59]; rfl) (fun H locs hP hD hS => ?_)
                refine lv_aload_n X.1 X.2.1 dX9_runs_101 rfl (lv_at hl 4 rfl) ?_
                refine lv_iconst (v := 2) X.1 X.2.1 dX9_runs_102 (by decide) ?_
                refine lv_iload_n X.1 X.2.1 dX9_runs_103 rfl (lv_at hl 0 rfl) ?_
                refine lv_imul X.1 X.2.1 dX9_runs_104 ?_
                obtain ⟨s60, es60, hf⟩ := stp_e hf
                refine z_put (ws' := wbX9 K aM s60) X hK hP hD hS hiX9 tyX9_ok nmX9 0 rfl rfl 17 (by decide) (bw_in W20_13) rfl rfl rfl (Nat.le_of_ble_eq_true rfl) dX9_runs_105 (by rw [es60]; rfl) (fun H locs hP hD hS => ?_)
                refine lv_aload_n X.1 X.2.1 dX9_runs_108 rfl (lv_at hl 4 rfl) ?_
                obtain ⟨s61, hc62, hf⟩ := bd1_e hf
                refine z_V (n := 0) (As := []) (rest := []) (ci := 9) (q0 := 0) X hK hN (kX9_notes l D K aM s60 _ s61 hc62) (bw_V W21_0 W21_1 W21_2 W1_5 W21_3) rfl ⟨rfl, rfl⟩ (by decide +kernel) rfl ⟨Nat.le_of_ble_eq_true rfl, Nat.le_of_ble_eq_true rfl⟩ hP hD rfl rfl (zj_same hD hS hA) hS hl.1 rfl (Nat.le_of_ble_eq_true rfl) dX9_runs_109 ⟨Nat.zero_le _, Nat.zero_le _⟩ rfl (fun H locs hP hD hS => ?_)
                refine lv_goto (tgt := 23) X.1 X.2.1 dX9_runs_112 (by decide) ?_
                exact ih _ _ _ _ hf _ _ hP hD hS _ (lv_sub hl [4, 0, 5, 6] rfl)
              · have hf := ite_f hf c58
                refine lv_aload_n X.1 X.2.1 dX9_runs_82 rfl (lv_at hl 3 rfl) ?_
                refine lv_iload X.1 X.2.1 dX9_runs_83 (lv_at hl 0 rfl) ?_
                obtain ⟨s63, hc64, hf⟩ := bd1_e hf
                refine z_V (n := 1) (As := [.int r56]) (rest := []) (ci := 9) (q0 := 0) X hK hN (kX9_haltsHalf l D K aM q23_M _ r56 s63 hc64) (bw_V W21_19 W21_20 W21_21 W1_5 W21_22) rfl ⟨rfl, rfl⟩ (by decide +kernel) rfl ⟨Nat.le_of_ble_eq_true rfl, Nat.le_of_ble_eq_true rfl⟩ hP hD rfl rfl (zj_same hD hS hA) hS hl.1 rfl (Nat.le_of_ble_eq_true rfl) dX9_runs_85 ⟨Nat.zero_le _, Nat.zero_le _⟩ rfl (fun H locs hP hD hS => ?_)
                refine lv_iload X.1 X.2.1 dX9_runs_88 (lv_at hl 2 rfl) ?_
                refine lv_istore_n (lv' := [(1, .int w49), (6, .int r56), (5, .int w49), (4, .int w49), (0, .ref (aM 0)), (2, .int n23_1), (3, .int n23_2)]) X.1 X.2.1 dX9_runs_90 rfl hl (by decide) rfl (fun ls hl => ?_)
                refine lv_aload_n X.1 X.2.1 dX9_runs_91 rfl (lv_at hl 4 rfl) ?_
                refine lv_dup X.1 X.2.1 dX9_runs_92 rfl ?_
                refine z_get X hK hP hiX9 0 rfl rfl 16 (by decide) (bw_in W19_22) rfl dX9_runs_93 ?_
                refine lv_iconst (v := 1) X.1 X.2.1 dX9_runs_96 (by decide) ?_
                refine lv_iadd X.1 X.2.1 dX9_runs_97 ?_
                obtain ⟨s65, es65, hf⟩ := stp_e hf
                refine z_put (ws' := wbX9 K aM s65) X hK hP hD hS hiX9 tyX9_ok nmX9 0 rfl rfl 16 (by decide) (bw_in W19_22) rfl rfl rfl (Nat.le_of_ble_eq_true rfl) dX9_runs_98 (by rw [es65]; rfl) (fun H locs hP hD hS => ?_)
                refine lv_aload_n X.1 X.2.1 dX9_runs_101 rfl (lv_at hl 4 rfl) ?_
                refine lv_iconst (v := 2) X.1 X.2.1 dX9_runs_102 (by decide) ?_
                refine lv_iload_n X.1 X.2.1 dX9_runs_103 rfl (lv_at hl 0 rfl) ?_
                refine lv_imul X.1 X.2.1 dX9_runs_104 ?_
                obtain ⟨s66, es66, hf⟩ := stp_e hf
                refine z_put (ws' := wbX9 K aM s66) X hK hP hD hS hiX9 tyX9_ok nmX9 0 rfl rfl 17 (by decide) (bw_in W20_13) rfl rfl rfl (Nat.le_of_ble_eq_true rfl) dX9_runs_105 (by rw [es66]; rfl) (fun H locs hP hD hS => ?_)
                refine lv_aload_n X.1 X.2.1 dX9_runs_108 rfl (lv_at hl 4 rfl) ?_
                obtain ⟨s67, hc68, hf⟩ := bd1_e hf
                refine z_V (n := 0) (As := []) (rest := []) (ci := 9) (q0 := 0) X hK hN (kX9_notes l D K aM s66 _ s67 hc68) (bw_V W21_0 W21_1 W21_2 W1_5 W21_3) rfl ⟨rfl, rfl⟩ (by decide +kernel) rfl ⟨Nat.le_of_ble_eq_true rfl, Nat.le_of_ble_eq_true rfl⟩ hP hD rfl rfl (zj_same hD hS hA) hS hl.1 rfl (Nat.le_of_ble_eq_true rfl) dX9_runs_109 ⟨Nat.zero_le _, Nat.zero_le _⟩ rfl (fun H locs hP hD hS => ?_)
                refine lv_goto (tgt := 23) X.1 X.2.1 dX9_runs_112 (by decide) ?_
                exact ih _ _ _ _ hf _ _ hP hD hS _ (lv_sub hl [4, 0, 5, 6] rfl)
          · have hf := ite_f hf c50
            refine lv_iload_n X.1 X.2.1 dX9_runs_50 rfl (lv_at hl 2 rfl) ?_
            refine lv_goto (tgt := 56) X.1 X.2.1 dX9_runs_51 (by decide) ?_
            refine lv_istore (lv' := [(5, .int n23_0), (4, .int w49), (0, .ref (aM 0)), (1, .int n23_0), (2, .int n23_1), (3, .int n23_2)]) X.1 X.2.1 dX9_runs_56 hl (by decide) rfl (fun ls hl => ?_)
            refine lv_iload X.1 X.2.1 dX9_runs_58 (lv_at hl 0 rfl) ?_
            refine lv_aload_n X.1 X.2.1 dX9_runs_60 rfl (lv_at hl 2 rfl) ?_
            refine z_get X hK hP hiX9 0 rfl rfl 11 (by decide) (bw_in W7_20) rfl dX9_runs_61 ?_
            refine lv_icmp_ne (tgt := 74) X.1 X.2.1 dX9_runs_64 (by decide) (fun c69 => ?_) (fun c69 => ?_)
            · have hf := ite_f hf c69
              refine lv_iconst (v := 0) X.1 X.2.1 dX9_runs_74 (by decide) ?_
              refine lv_istore (lv' := [(6, .int 0), (5, .int n23_0), (4, .int w49), (0, .ref (aM 0)), (1, .int n23_0), (2, .int n23_1), (3, .int n23_2)]) X.1 X.2.1 dX9_runs_75 hl (by decide) rfl (fun ls hl => ?_)
              refine lv_iload X.1 X.2.1 dX9_runs_77 (lv_at hl 0 rfl) ?_
              refine lv_if_eq (tgt := 88) X.1 X.2.1 dX9_runs_79 (by decide) (fun _ => ?_) (fun c => absurd c (by decide))
              refine lv_iload X.1 X.2.1 dX9_runs_88 (lv_at hl 2 rfl) ?_
              refine lv_istore_n (lv' := [(1, .int w49), (6, .int 0), (5, .int n23_0), (4, .int w49), (0, .ref (aM 0)), (2, .int n23_1), (3, .int n23_2)]) X.1 X.2.1 dX9_runs_90 rfl hl (by decide) rfl (fun ls hl => ?_)
              refine lv_aload_n X.1 X.2.1 dX9_runs_91 rfl (lv_at hl 4 rfl) ?_
              refine lv_dup X.1 X.2.1 dX9_runs_92 rfl ?_
              refine z_get X hK hP hiX9 0 rfl rfl 16 (by decide) (bw_in W19_22) rfl dX9_runs_93 ?_
              refine lv_iconst (v := 1) X.1 X.2.1 dX9_runs_96 (by decide) ?_
              refine lv_iadd X.1 X.2.1 dX9_runs_97 ?_
              obtain ⟨s70, es70, hf⟩ := stp_e hf
              refine z_put (ws' := wbX9 K aM s70) X hK hP hD hS hiX9 tyX9_ok nmX9 0 rfl rfl 16 (by decide) (bw_in W19_22) rfl rfl rfl (Nat.le_of_ble_eq_true rfl) dX9_runs_98 (by rw [es70]; rfl) (fun H locs hP hD hS => ?_)
              refine lv_aload_n X.1 X.2.1 dX9_runs_101 rfl (lv_at hl 4 rfl) ?_
              refine lv_iconst (v := 2) X.1 X.2.1 dX9_runs_102 (by decide) ?_
              refine lv_iload_n X.1 X.2.1 dX9_runs_103 rfl (lv_at hl 0 rfl) ?_
              refine lv_imul X.1 X.2.1 dX9_runs_104 ?_
              obtain ⟨s71, es71, hf⟩ := stp_e hf
              refine z_put (ws' := wbX9 K aM s71) X hK hP hD hS hiX9 tyX9_ok nmX9 0 rfl rfl 17 (by decide) (bw_in W20_13) rfl rfl rfl (Nat.le_of_ble_eq_true rfl) dX9_runs_105 (by rw [es71]; rfl) (fun H locs hP hD hS => ?_)
              refine lv_aload_n X.1 X.2.1 dX9_runs_108 rfl (lv_at hl 4 rfl) ?_
              obtain ⟨s72, hc73, hf⟩ := bd1_e hf
              refine z_V (n := 0) (As := []) (rest := []) (ci := 9) (q0 := 0) X hK hN (kX9_notes l D K aM s71 _ s72 hc73) (bw_V W21_0 W21_1 W21_2 W1_5 W21_3) rfl ⟨rfl, rfl⟩ (by decide +kernel) rfl ⟨Nat.le_of_ble_eq_true rfl, Nat.le_of_ble_eq_true rfl⟩ hP hD rfl rfl (zj_same hD hS hA) hS hl.1 rfl (Nat.le_of_ble_eq_true rfl) dX9_runs_109 ⟨Nat.zero_le _, Nat.zero_le _⟩ rfl (fun H locs hP hD hS => ?_)
              refine lv_goto (tgt := 23) X.1 X.2.1 dX9_runs_112 (by decide) ?_
              exact ih _ _ _ _ hf _ _ hP hD hS _ (lv_sub hl [4, 0, 5, 6] rfl)
            · have hf := ite_t hf c69
              refine lv_aload_n X.1 X.2.1 dX9_runs_67 rfl (lv_at hl 2 rfl) ?_
              obtain ⟨r74, hc75, hf⟩ := bd1_e hf
              refine z_V (n := 0) (As := []) (rest := []) (ci := 9) (q0 := 0) X hK hN (kX9_waiting l D K aM q23_M _ r74 hc75) (bw_V W21_11 W21_12 W21_13 W1_5 W21_14) rfl ⟨rfl, rfl⟩ (by decide +kernel) rfl ⟨Nat.le_of_ble_eq_true rfl, Nat.le_of_ble_eq_true rfl⟩ hP hD rfl rfl (zj_same hD hS hA) hS hl.1 rfl (Nat.le_of_ble_eq_true rfl) dX9_runs_68 ⟨Nat.zero_le _, Nat.zero_le _⟩ rfl (fun H locs hP hD hS => ?_)
              refine lv_goto (tgt := 75) X.1 X.2.1 dX9_runs_71 (by decide) ?_
              refine lv_istore (lv' := [(6, .int r74), (5, .int n23_0), (4, .int w49), (0, .ref (aM 0)), (1, .int n23_0), (2, .int n23_1), (3, .int n23_2)]) X.1 X.2.1 dX9_runs_75 hl (by decide) rfl (fun ls hl => ?_)
              refine lv_iload X.1 X.2.1 dX9_runs_77 (lv_at hl 0 rfl) ?_
              refine lv_if_eq (tgt := 88) X.1 X.2.1 dX9_runs_79 (by decide) (fun c76 => ?_) (fun c76 => ?_)
              · have hf := ite_t hf c76
                refine lv_iload X.1 X.2.1 dX9_runs_88 (lv_at hl 2 rfl) ?_
                refine lv_istore_n (lv' := [(1, .int w49), (6, .int r74), (5, .int n23_0), (4, .int w49), (0, .ref (aM 0)), (2, .int n23_1), (3, .int n23_2)]) X.1 X.2.1 dX9_runs_90 rfl hl (by decide) rfl (fun ls hl => ?_)
                refine lv_aload_n X.1 X.2.1 dX9_runs_91 rfl (lv_at hl 4 rfl) ?_
                refine lv_dup X.1 X.2.1 dX9_runs_92 rfl ?_
                refine z_get X hK hP hiX9 0 rfl rfl 16 (by decide) (bw_in W19_22) rfl dX9_runs_93 ?_
                refine lv_iconst (v := 1) X.1 X.2.1 dX9_runs_96 (by decide) ?_
                refine lv_iadd X.1 X.2.1 dX9_runs_97 ?_
                obtain ⟨s77, es77, hf⟩ := stp_e hf
                refine z_put (ws' := wbX9 K aM s77) X hK hP hD hS hiX9 tyX9_ok nmX9 0 rfl rfl 16 (by decide) (bw_in W19_22) rfl rfl rfl (Nat.le_of_ble_eq_true rfl) dX9_runs_98 (by rw [es77]; rfl) (fun H locs hP hD hS => ?_)
                refine lv_aload_n X.1 X.2.1 dX9_runs_101 rfl (lv_at hl 4 rfl) ?_
                refine lv_iconst (v := 2) X.1 X.2.1 dX9_runs_102 (by decide) ?_
                refine lv_iload_n X.1 X.2.1 dX9_runs_103 rfl (lv_at hl 0 rfl) ?_
                refine lv_imul X.1 X.2.1 dX9_runs_104 ?_
                obtain ⟨s78, es78, hf⟩ := stp_e hf
                refine z_put (ws' := wbX9 K aM s78) X hK hP hD hS hiX9 tyX9_ok nmX9 0 rfl rfl 17 (by decide) (bw_in W20_13) rfl rfl rfl (Nat.le_of_ble_eq_true rfl) dX9_runs_105 (by rw [es78]; rfl) (fun H locs hP hD hS => ?_)
                refine lv_aload_n X.1 X.2.1 dX9_runs_108 rfl (lv_at hl 4 rfl) ?_
                obtain ⟨s79, hc80, hf⟩ := bd1_e hf
                refine z_V (n := 0) (As := []) (rest := []) (ci := 9) (q0 := 0) X hK hN (kX9_notes l D K aM s78 _ s79 hc80) (bw_V W21_0 W21_1 W21_2 W1_5 W21_3) rfl ⟨rfl, rfl⟩ (by decide +kernel) rfl ⟨Nat.le_of_ble_eq_true rfl, Nat.le_of_ble_eq_true rfl⟩ hP hD rfl rfl (zj_same hD hS hA) hS hl.1 rfl (Nat.le_of_ble_eq_true rfl) dX9_runs_109 ⟨Nat.zero_le _, Nat.zero_le _⟩ rfl (fun H locs hP hD hS => ?_)
                refine lv_goto (tgt := 23) X.1 X.2.1 dX9_runs_112 (by decide) ?_
                exact ih _ _ _ _ hf _ _ hP hD hS _ (lv_sub hl [4, 0, 5, 6] rfl)
              · have hf := ite_f hf c76
                refine lv_aload_n X.1 X.2.1 dX9_runs_82 rfl (lv_at hl 3 rfl) ?_
                refine lv_iload X.1 X.2.1 dX9_runs_83 (lv_at hl 0 rfl) ?_
                obtain ⟨s81, hc82, hf⟩ := bd1_e hf
                refine z_V (n := 1) (As := [.int r74]) (rest := []) (ci := 9) (q0 := 0) X hK hN (kX9_haltsHalf l D K aM q23_M _ r74 s81 hc82) (bw_V W21_19 W21_20 W21_21 W1_5 W21_22) rfl ⟨rfl, rfl⟩ (by decide +kernel) rfl ⟨Nat.le_of_ble_eq_true rfl, Nat.le_of_ble_eq_true rfl⟩ hP hD rfl rfl (zj_same hD hS hA) hS hl.1 rfl (Nat.le_of_ble_eq_true rfl) dX9_runs_85 ⟨Nat.zero_le _, Nat.zero_le _⟩ rfl (fun H locs hP hD hS => ?_)
                refine lv_iload X.1 X.2.1 dX9_runs_88 (lv_at hl 2 rfl) ?_
                refine lv_istore_n (lv' := [(1, .int w49), (6, .int r74), (5, .int n23_0), (4, .int w49), (0, .ref (aM 0)), (2, .int n23_1), (3, .int n23_2)]) X.1 X.2.1 dX9_runs_90 rfl hl (by decide) rfl (fun ls hl => ?_)
                refine lv_aload_n X.1 X.2.1 dX9_runs_91 rfl (lv_at hl 4 rfl) ?_
                refine lv_dup X.1 X.2.1 dX9_runs_92 rfl ?_
                refine z_get X hK hP hiX9 0 rfl rfl 16 (by decide) (bw_in W19_22) rfl dX9_runs_93 ?_
                refine lv_iconst (v := 1) X.1 X.2.1 dX9_runs_96 (by decide) ?_
                refine lv_iadd X.1 X.2.1 dX9_runs_97 ?_
                obtain ⟨s83, es83, hf⟩ := stp_e hf
                refine z_put (ws' := wbX9 K aM s83) X hK hP hD hS hiX9 tyX9_ok nmX9 0 rfl rfl 16 (by decide) (bw_in W19_22) rfl rfl rfl (Nat.le_of_ble_eq_true rfl) dX9_runs_98 (by rw [es83]; rfl) (fun H locs hP hD hS => ?_)
                refine lv_aload_n X.1 X.2.1 dX9_runs_101 rfl (lv_at hl 4 rfl) ?_
                refine lv_iconst (v := 2) X.1 X.2.1 dX9_runs_102 (by decide) ?_
                refine lv_iload_n X.1 X.2.1 dX9_runs_103 rfl (lv_at hl 0 rfl) ?_
                refine lv_imul X.1 X.2.1 dX9_runs_104 ?_
                obtain ⟨s84, es84, hf⟩ := stp_e hf
                refine z_put (ws' := wbX9 K aM s84) X hK hP hD hS hiX9 tyX9_ok nmX9 0 rfl rfl 17 (by decide) (bw_in W20_13) rfl rfl rfl (Nat.le_of_ble_eq_true rfl) dX9_runs_105 (by rw [es84]; rfl) (fun H locs hP hD hS => ?_)
                refine lv_aload_n X.1 X.2.1 dX9_runs_108 rfl (lv_at hl 4 rfl) ?_
                obtain ⟨s85, hc86, hf⟩ := bd1_e hf
                refine z_V (n := 0) (As := []) (rest := []) (ci := 9) (q0 := 0) X hK hN (kX9_notes l D K aM s84 _ s85 hc86) (bw_V W21_0 W21_1 W21_2 W1_5 W21_3) rfl ⟨rfl, rfl⟩ (by decide +kernel) rfl ⟨Nat.le_of_ble_eq_true rfl, Nat.le_of_ble_eq_true rfl⟩ hP hD rfl rfl (zj_same hD hS hA) hS hl.1 rfl (Nat.le_of_ble_eq_true rfl) dX9_runs_109 ⟨Nat.zero_le _, Nat.zero_le _⟩ rfl (fun H locs hP hD hS => ?_)
                refine lv_goto (tgt := 23) X.1 X.2.1 dX9_runs_112 (by decide) ?_
                exact ih _ _ _ _ hf _ _ hP hD hS _ (lv_sub hl [4, 0, 5, 6] rfl)
  have L8_0 : ∀ (n : Nat), ∀ (n8_0 : Int32) (n8_1 : Int32) (q8_M : St), fX9_runs_8 n n8_0 n8_1 q8_M = some s_ → ∀ (H : Heap) (locs : List Loc), va_P D vwCl (wbX9 K aM q8_M) H → va_D A (wbX9 K aM q8_M) → va_S A s.heap H locs → ∀ (ls : Array Slot), lv_has ls 7 [(0, .ref (aM 0)), (1, .int n8_0), (2, .int n8_1)] → W p l e rmX9_runs s m ([.ref (aM 0)] : List Value).toArray below meth c H locs 0 0 (MQ below (zQ (none) D A (wbX9 K aM s_)) ([.ref (aM 0)] : List Value).toArray s 0 0 A) (F0 m 8 ls []) := by
    intro n
    induction n with
    | zero =>
      intro n8_0 n8_1 q8_M hf
      rw [fX9_runs_8] at hf
      cases hf
    | succ n ih =>
      intro n8_0 n8_1 q8_M hf H locs hP hD hS ls hl
      rw [fX9_runs_8] at hf
      refine lv_iload_n X.1 X.2.1 dX9_runs_8 rfl (lv_at hl 2 rfl) ?_
      refine lv_aload_n X.1 X.2.1 dX9_runs_9 rfl (lv_at hl 0 rfl) ?_
      refine z_get X hK hP hiX9 0 rfl rfl 13 (by decide) (bw_in W20_7) rfl dX9_runs_10 ?_
      refine lv_icmp_ge (tgt := 126) X.1 X.2.1 dX9_runs_13 (by decide) (fun c3 => ?_) (fun c3 => ?_)
      · have hf := ite_t hf c3
        obtain rfl := z_inj1 hf
        exact z_vret X hr hlk hP hD hS dX9_runs_126
      · have hf := ite_f hf c3
        refine lv_aload_n X.1 X.2.1 dX9_runs_16 rfl (lv_at hl 0 rfl) ?_
        refine z_get X hK hP hiX9 0 rfl rfl 14 (by decide) (bw_in W7_0) rfl dX9_runs_17 ?_
        refine lv_iload_n X.1 X.2.1 dX9_runs_20 rfl (lv_at hl 2 rfl) ?_
        obtain ⟨hi5, hf⟩ := chk_e hf
        obtain ⟨v4, ev4, hf⟩ := stp_e hf
        refine z_iald X hK hP 9 rfl hi5 ev4 dX9_runs_21 ?_
        refine lv_istore_n (lv' := [(3, .int v4), (0, .ref (aM 0)), (1, .int n8_0), (2, .int n8_1)]) X.1 X.2.1 dX9_runs_22 rfl hl (by decide) rfl (fun ls hl => ?_)
        exact L23_1 _ ih _ _ _ _ _ hf _ _ hP hD hS _ (lv_sub hl [1, 2, 3, 0] rfl)
  rw [fX9_runs] at hf
  refine lv_aload_n X.1 X.2.1 dX9_runs_0 rfl (lv_at hl 0 rfl) ?_
  obtain ⟨s1, hc2, hf⟩ := bd1_e hf
  refine z_V (n := 0) (As := []) (rest := []) (ci := 9) (q0 := 0) X hK hN (kX9_begins l D K aM s0 _ s1 hc2) (bw_V W20_14 W20_15 W20_16 W1_5 W20_17) rfl ⟨rfl, rfl⟩ (by decide +kernel) rfl ⟨Nat.le_of_ble_eq_true rfl, Nat.le_of_ble_eq_true rfl⟩ hP hD rfl rfl (zj_same hD hS hA) hS hl.1 rfl (Nat.le_of_ble_eq_true rfl) dX9_runs_1 ⟨Nat.zero_le _, Nat.zero_le _⟩ rfl (fun H locs hP hD hS => ?_)
  refine lv_iconst (v := 0) X.1 X.2.1 dX9_runs_4 (by decide) ?_
  refine lv_istore_n (lv' := [(1, .int 0), (0, .ref (aM 0))]) X.1 X.2.1 dX9_runs_5 rfl hl (by decide) rfl (fun ls hl => ?_)
  refine lv_iconst (v := 0) X.1 X.2.1 dX9_runs_6 (by decide) ?_
  refine lv_istore_n (lv' := [(2, .int 0), (1, .int 0), (0, .ref (aM 0))]) X.1 X.2.1 dX9_runs_7 rfl hl (by decide) rfl (fun ls hl => ?_)
  exact L8_0  _ _ _ _ hf _ _ hP hD hS _ (lv_sub hl [2, 1, 0] rfl)
