abbrev rmX9_neverNow : Room := { frames := 7, cells := 0, slots := 0, locals := 163 }
set_option maxHeartbeats 4000000 in
set_option maxRecDepth 100000 in
theorem kX9_neverNow (l : Launch) (D : va_G) (K : Nat → ClassId) (aM : Nat → Nat) (s0 : St) (sz : Nat)  (q_ : Int32) (s_ : St) (hf : fX9_neverNow s0 = some (q_, s_)) : Met l yX9_neverNow (bw (Cond.code yX9_neverNow cX9_neverNow 3 (some .int))) rmX9_neverNow (va_Pc [.ref (aM 0)] (zB D K sz (wbX9 K aM s0))) (zQ (some (.int q_)) D (va_A (wbX9 K aM s0) sz) (wbX9 K aM s_)) 0 0 (va_A (wbX9 K aM s0) sz) := by
  refine z_of (cc := cX9_neverNow) (maxL := 3) (ret := (some .int)) (own := RX9) (lv := [(0, .ref (aM 0))]) (by decide) rfl rfl (Nat.le_of_ble_eq_true rfl) rfl ?_
  intro p e s m below meth c X hr hlk hK hN hsz hP hD hA hS hin ls hl
  generalize va_A (wbX9 K aM s0) sz = A at hD hA hS hN ⊢
  have hiX9 : ∀ w ∈ u_ws RX9 TX9 44, w ∈ (bw (Cond.code yX9_neverNow cX9_neverNow 3 (some .int))) := fun w h => bw_in (inlX9 w h)
  have L8_0 : ∀ (n : Nat), ∀ (n8_0 : Int32) (n8_1 : Int32) (q8_M : St), fX9_neverNow_8 n n8_0 n8_1 q8_M = some ((q_, s_)) → ∀ (H : Heap) (locs : List Loc), va_P D vwCl (wbX9 K aM q8_M) H → va_D A (wbX9 K aM q8_M) → va_S A s.heap H locs → ∀ (ls : Array Slot), lv_has ls 3 [(0, .ref (aM 0)), (1, .int n8_0), (2, .int n8_1)] → W p l e rmX9_neverNow s m ([.ref (aM 0)] : List Value).toArray below meth c H locs 0 0 (MQ below (zQ (some (.int q_)) D A (wbX9 K aM s_)) ([.ref (aM 0)] : List Value).toArray s 0 0 A) (F0 m 8 ls []) := by
    intro n
    induction n with
    | zero =>
      intro n8_0 n8_1 q8_M hf
      rw [fX9_neverNow_8] at hf
      cases hf
    | succ n ih =>
      intro n8_0 n8_1 q8_M hf H locs hP hD hS ls hl
      rw [fX9_neverNow_8] at hf
      refine lv_iload_n X.1 X.2.1 dX9_neverNow_8 rfl (lv_at hl 2 rfl) ?_
      refine lv_aload_n X.1 X.2.1 dX9_neverNow_9 rfl (lv_at hl 0 rfl) ?_
      refine z_get X hK hP hiX9 0 rfl rfl 6 (by decide) (bw_in W10_13) rfl dX9_neverNow_10 ?_
      refine lv_icmp_ge (tgt := 52) X.1 X.2.1 dX9_neverNow_13 (by decide) (fun c3 => ?_) (fun c3 => ?_)
      · have hf := ite_t hf c3
        refine lv_iload_n X.1 X.2.1 dX9_neverNow_52 rfl (lv_at hl 1 rfl) ?_
        obtain ⟨rfl, rfl⟩ := z_inj2 hf
        exact z_iret X hr hlk hP hD hS dX9_neverNow_53
      · have hf := ite_f hf c3
        refine lv_aload_n X.1 X.2.1 dX9_neverNow_16 rfl (lv_at hl 0 rfl) ?_
        refine lv_sipush (v := 255) X.1 X.2.1 dX9_neverNow_17 (by decide) ?_
        refine lv_iconst (v := 1) X.1 X.2.1 dX9_neverNow_20 (by decide) ?_
        refine lv_iload_n X.1 X.2.1 dX9_neverNow_21 rfl (lv_at hl 2 rfl) ?_
        refine lv_ishl X.1 X.2.1 dX9_neverNow_22 ?_
        refine lv_iconst (v := -1) X.1 X.2.1 dX9_neverNow_23 (by decide) ?_
        refine lv_ixor X.1 X.2.1 dX9_neverNow_24 ?_
        refine lv_iand X.1 X.2.1 dX9_neverNow_25 ?_
        obtain ⟨s4, es4, hf⟩ := stp_e hf
        refine z_put (ws' := wbX9 K aM s4) X hK hP hD hS hiX9 tyX9_ok nmX9 0 rfl rfl 15 (by decide) (bw_in W20_8) rfl rfl rfl (Nat.le_of_ble_eq_true rfl) dX9_neverNow_26 (by rw [es4]; rfl) (fun H locs hP hD hS => ?_)
        refine lv_iload_n X.1 X.2.1 dX9_neverNow_29 rfl (lv_at hl 1 rfl) ?_
        refine lv_aload_n X.1 X.2.1 dX9_neverNow_30 rfl (lv_at hl 0 rfl) ?_
        obtain ⟨r5, s6, hc7, hf⟩ := bd2_e hf
        refine z_V (n := 0) (As := []) (rest := [.int n8_0]) (ci := 9) (q0 := 0) X hK hN (kX9_isSeen l D K aM s4 _ r5 s6 hc7) (bw_V W33_15 W33_16 W33_17 W1_5 W33_18) rfl ⟨rfl, rfl⟩ (by decide +kernel) rfl ⟨Nat.le_of_ble_eq_true rfl, Nat.le_of_ble_eq_true rfl⟩ hP hD rfl rfl (zj_same hD hS hA) hS hl.1 rfl (Nat.le_of_ble_eq_true rfl) dX9_neverNow_31 ⟨Nat.zero_le _, Nat.zero_le _⟩ rfl (fun H locs hP hD hS => ?_)
        refine lv_if_eq (tgt := 43) X.1 X.2.1 dX9_neverNow_34 (by decide) (fun c8 => ?_) (fun c8 => ?_)
        · have hf := ite_t hf c8
          refine lv_iconst (v := 0) X.1 X.2.1 dX9_neverNow_43 (by decide) ?_
          refine lv_ior X.1 X.2.1 dX9_neverNow_44 ?_
          obtain ⟨w9, ew9, hf⟩ := stp_e hf
          refine z_top ew9 ?_
          refine lv_istore_n (lv' := [(1, .int w9), (0, .ref (aM 0)), (2, .int n8_1)]) X.1 X.2.1 dX9_neverNow_45 rfl hl (by decide) rfl (fun ls hl => ?_)
          obtain ⟨w10, ew10, hf⟩ := stp_e hf
          refine lv_iinc (v := w10) (lv' := [(2, .int w10), (1, .int w9), (0, .ref (aM 0))]) X.1 X.2.1 dX9_neverNow_46 hl (k := 2) rfl (by rw [ew10]; rfl) (by decide) rfl (fun ls hl => ?_)
          refine lv_goto (tgt := 8) X.1 X.2.1 dX9_neverNow_49 (by decide) ?_
          exact ih _ _ _ hf _ _ hP hD hS _ (lv_sub hl [2, 1, 0] rfl)
        · have hf := ite_f hf c8
          refine lv_iconst (v := 1) X.1 X.2.1 dX9_neverNow_37 (by decide) ?_
          refine lv_iload_n X.1 X.2.1 dX9_neverNow_38 rfl (lv_at hl 2 rfl) ?_
          refine lv_ishl X.1 X.2.1 dX9_neverNow_39 ?_
          refine lv_goto (tgt := 44) X.1 X.2.1 dX9_neverNow_40 (by decide) ?_
          refine lv_ior X.1 X.2.1 dX9_neverNow_44 ?_
          obtain ⟨w11, ew11, hf⟩ := stp_e hf
          refine z_top ew11 ?_
          refine lv_istore_n (lv' := [(1, .int w11), (0, .ref (aM 0)), (2, .int n8_1)]) X.1 X.2.1 dX9_neverNow_45 rfl hl (by decide) rfl (fun ls hl => ?_)
          obtain ⟨w12, ew12, hf⟩ := stp_e hf
          refine lv_iinc (v := w12) (lv' := [(2, .int w12), (1, .int w11), (0, .ref (aM 0))]) X.1 X.2.1 dX9_neverNow_46 hl (k := 2) rfl (by rw [ew12]; rfl) (by decide) rfl (fun ls hl => ?_)
          refine lv_goto (tgt := 8) X.1 X.2.1 dX9_neverNow_49 (by decide) ?_
          exact ih _ _ _ hf _ _ hP hD hS _ (lv_sub hl [2, 1, 0] rfl)
  rw [fX9_neverNow] at hf
  refine lv_aload_n X.1 X.2.1 dX9_neverNow_0 rfl (lv_at hl 0 rfl) ?_
  obtain ⟨s1, hc2, hf⟩ := bd1_e hf
  refine z_V (n := 0) (As := []) (rest := []) (ci := 9) (q0 := 0) X hK hN (kX9_asTold l D K aM s0 _ s1 hc2) (bw_V W20_3 W20_4 W20_5 W1_5 W20_6) rfl ⟨rfl, rfl⟩ (by decide +kernel) rfl ⟨Nat.le_of_ble_eq_true rfl, Nat.le_of_ble_eq_true rfl⟩ hP hD rfl rfl (zj_same hD hS hA) hS hl.1 rfl (Nat.le_of_ble_eq_true rfl) dX9_neverNow_1 ⟨Nat.zero_le _, Nat.zero_le _⟩ rfl (fun H locs hP hD hS => ?_)
  refine lv_iconst (v := 0) X.1 X.2.1 dX9_neverNow_4 (by decide) ?_
  refine lv_istore_n (lv' := [(1, .int 0), (0, .ref (aM 0))]) X.1 X.2.1 dX9_neverNow_5 rfl hl (by decide) rfl (fun ls hl => ?_)
  refine lv_iconst (v := 0) X.1 X.2.1 dX9_neverNow_6 (by decide) ?_
  refine lv_istore_n (lv' := [(2, .int 0), (1, .int 0), (0, .ref (aM 0))]) X.1 X.2.1 dX9_neverNow_7 rfl hl (by decide) rfl (fun ls hl => ?_)
  exact L8_0  _ _ _ _ hf _ _ hP hD hS _ (lv_sub hl [2, 1, 0] rfl)
abbrev rmX9_weighNow : Room := { frames := 8, cells := 0, slots := 0, locals := 185 }
set_option maxHeartbeats 4000000 in
set_option maxRecDepth 100000 in
theorem kX9_weighNow (l : Launch) (D : va_G) (K : Nat → ClassId) (aM : Nat → Nat) (s0 : St) (sz : Nat)  (q_ : Int32) (s_ : St) (hf : fX9_weighNow s0 = some (q_, s_)) : Met l yX9_weighNow (bw (Cond.code yX9_weighNow cX9_weighNow 9 (some .int))) rmX9_weighNow (va_Pc [.ref (aM 0)] (zB D K sz (wbX9 K aM s0))) (zQ (some (.int q_)) D (va_A (wbX9 K aM s0) sz) (wbX9 K aM s_)) 0 0 (va_A (wbX9 K aM s0) sz) := by
  refine z_of (cc := cX9_weighNow) (maxL := 9) (ret := (some .int)) (own := RX9) (lv := [(0, .ref (aM 0))]) (by decide) rfl rfl (Nat.le_of_ble_eq_true rfl) rfl ?_
  intro p e s m below meth c X hr hlk hK hN hsz hP hD hA hS hin ls hl
  generalize va_A (wbX9 K aM s0) sz = A at hD hA hS hN ⊢
  have hiX9 : ∀ w ∈ u_ws RX9 TX9 44, w ∈ (bw (Cond.code yX9_weighNow cX9_weighNow 9 (some .int))) := fun w h => bw_in (inlX9 w h)
  have L104_3 : ∀ (rec76 : Int32 → Int32 → Int32 → Int32 → St → Option (Int32 × St)) (hrec76 : ∀ (n76_0 : Int32) (n76_1 : Int32) (n76_2 : Int32) (n76_3 : Int32) (q76_M : St), rec76 n76_0 n76_1 n76_2 n76_3 q76_M = some ((q_, s_)) → ∀ (H : Heap) (locs : List Loc), va_P D vwCl (wbX9 K aM q76_M) H → va_D A (wbX9 K aM q76_M) → va_S A s.heap H locs → ∀ (ls : Array Slot), lv_has ls 9 [(0, .ref (aM 0)), (1, .int n76_0), (2, .int n76_1), (3, .int n76_2), (4, .int n76_3)] → W p l e rmX9_weighNow s m ([.ref (aM 0)] : List Value).toArray below meth c H locs 0 0 (MQ below (zQ (some (.int q_)) D A (wbX9 K aM s_)) ([.ref (aM 0)] : List Value).toArray s 0 0 A) (F0 m 76 ls [])), ∀ (rec89 : Int32 → Int32 → Int32 → Int32 → Int32 → Int32 → St → Option (Int32 × St)) (hrec89 : ∀ (n89_0 : Int32) (n89_1 : Int32) (n89_2 : Int32) (n89_3 : Int32) (n89_4 : Int32) (n89_5 : Int32) (q89_M : St), rec89 n89_0 n89_1 n89_2 n89_3 n89_4 n89_5 q89_M = some ((q_, s_)) → ∀ (H : Heap) (locs : List Loc), va_P D vwCl (wbX9 K aM q89_M) H → va_D A (wbX9 K aM q89_M) → va_S A s.heap H locs → ∀ (ls : Array Slot), lv_has ls 9 [(0, .ref (aM 0)), (1, .int n89_0), (2, .int n89_1), (3, .int n89_2), (4, .int n89_3), (5, .int n89_4), (6, .int n89_5)] → W p l e rmX9_weighNow s m ([.ref (aM 0)] : List Value).toArray below meth c H locs 0 0 (MQ below (zQ (some (.int q_)) D A (wbX9 K aM s_)) ([.ref (aM 0)] : List Value).toArray s 0 0 A) (F0 m 89 ls [])), ∀ (n : Nat), ∀ (n104_0 : Int32) (n104_1 : Int32) (n104_2 : Int32) (n104_3 : Int32) (n104_4 : Int32) (n104_5 : Int32) (n104_6 : Int32) (n104_7 : Int32) (q104_M : St), fX9_weighNow_104 rec76 rec89 n n104_0 n104_1 n104_2 n104_3 n104_4 n104_5 n104_6 n104_7 q104_M = some ((q_, s_)) → ∀ (H : Heap) (locs : List Loc), va_P D vwCl (wbX9 K aM q104_M) H → va_D A (wbX9 K aM q104_M) → va_S A s.heap H locs → ∀ (ls : Array Slot), lv_has ls 9 [(0, .ref (aM 0)), (1, .int n104_0), (2, .int n104_1), (3, .int n104_2), (4, .int n104_3), (5, .int n104_4), (6, .int n104_5), (7, .int n104_6), (8, .int n104_7)] → W p l e rmX9_weighNow s m ([.ref (aM 0)] : List Value).toArray below meth c H locs 0 0 (MQ below (zQ (some (.int q_)) D A (wbX9 K aM s_)) ([.ref (aM 0)] : List Value).toArray s 0 0 A) (F0 m 104 ls []) := by
    intro rec76 hrec76 rec89 hrec89 n
    induction n with
    | zero =>
      intro n104_0 n104_1 n104_2 n104_3 n104_4 n104_5 n104_6 n104_7 q104_M hf
      rw [fX9_weighNow_104] at hf
      cases hf
    | succ n ih =>
      intro n104_0 n104_1 n104_2 n104_3 n104_4 n104_5 n104_6 n104_7 q104_M hf H locs hP hD hS ls hl
      rw [fX9_weighNow_104] at hf
      refine lv_iload X.1 X.2.1 dX9_weighNow_104 (lv_at hl 8 rfl) ?_
      refine lv_aload_n X.1 X.2.1 dX9_weighNow_106 rfl (lv_at hl 0 rfl) ?_
      refine z_get X hK hP hiX9 0 rfl rfl 6 (by decide) (bw_in W10_13) rfl dX9_weighNow_107 ?_
      refine lv_icmp_ge (tgt := 176) X.1 X.2.1 dX9_weighNow_110 (by decide) (fun c10 => ?_) (fun c10 => ?_)
      · have hf := ite_t hf c10
        refine lv_iload X.1 X.2.1 dX9_weighNow_176 (lv_at hl 7 rfl) ?_
        refine lv_iload X.1 X.2.1 dX9_weighNow_178 (lv_at hl 5 rfl) ?_
        refine lv_icmp_le (tgt := 188) X.1 X.2.1 dX9_weighNow_180 (by decide) (fun c11 => ?_) (fun c11 => ?_)
        · have hf := ite_t hf c11
          refine lv_iload X.1 X.2.1 dX9_weighNow_188 (lv_at hl 5 rfl) ?_
          refine lv_istore (lv' := [(5, .int n104_4), (0, .ref (aM 0)), (1, .int n104_0), (2, .int n104_1), (3, .int n104_2), (4, .int n104_3), (6, .int n104_5), (7, .int n104_6), (8, .int n104_7)]) X.1 X.2.1 dX9_weighNow_190 hl (by decide) rfl (fun ls hl => ?_)
          obtain ⟨w12, ew12, hf⟩ := stp_e hf
          refine lv_iinc (v := w12) (lv' := [(6, .int w12), (5, .int n104_4), (0, .ref (aM 0)), (1, .int n104_0), (2, .int n104_1), (3, .int n104_2), (4, .int n104_3), (7, .int n104_6), (8, .int n104_7)]) X.1 X.2.1 dX9_weighNow_192 hl (k := 6) rfl (by rw [ew12]; rfl) (by decide) rfl (fun ls hl => ?_)
          refine lv_goto (tgt := 89) X.1 X.2.1 dX9_weighNow_195 (by decide) ?_
          exact hrec89 _ _ _ _ _ _ _ hf _ _ hP hD hS _ (lv_sub hl [2, 3, 4, 5, 6, 1, 0] rfl)
        · have hf := ite_f hf c11
          refine lv_iload X.1 X.2.1 dX9_weighNow_183 (lv_at hl 7 rfl) ?_
          refine lv_goto (tgt := 190) X.1 X.2.1 dX9_weighNow_185 (by decide) ?_
          refine lv_istore (lv' := [(5, .int n104_6), (0, .ref (aM 0)), (1, .int n104_0), (2, .int n104_1), (3, .int n104_2), (4, .int n104_3), (6, .int n104_5), (7, .int n104_6), (8, .int n104_7)]) X.1 X.2.1 dX9_weighNow_190 hl (by decide) rfl (fun ls hl => ?_)
          obtain ⟨w13, ew13, hf⟩ := stp_e hf
          refine lv_iinc (v := w13) (lv' := [(6, .int w13), (5, .int n104_6), (0, .ref (aM 0)), (1, .int n104_0), (2, .int n104_1), (3, .int n104_2), (4, .int n104_3), (7, .int n104_6), (8, .int n104_7)]) X.1 X.2.1 dX9_weighNow_192 hl (k := 6) rfl (by rw [ew13]; rfl) (by decide) rfl (fun ls hl => ?_)
          refine lv_goto (tgt := 89) X.1 X.2.1 dX9_weighNow_195 (by decide) ?_
          exact hrec89 _ _ _ _ _ _ _ hf _ _ hP hD hS _ (lv_sub hl [2, 3, 4, 5, 6, 1, 0] rfl)
      · have hf := ite_f hf c10
        refine lv_iload X.1 X.2.1 dX9_weighNow_113 (lv_at hl 7 rfl) ?_
        refine lv_iload_n X.1 X.2.1 dX9_weighNow_115 rfl (lv_at hl 1 rfl) ?_
        refine lv_iload X.1 X.2.1 dX9_weighNow_116 (lv_at hl 6 rfl) ?_
        obtain ⟨r14, hc15, hf⟩ := bd1_e hf
        refine z_S (n := 2) (As := [.int n104_0, .int n104_5]) (rest := [.int n104_6]) X hK hN (kX9_isIn l D K _ n104_0 n104_5 r14 hc15) (bw_S W21_8 W21_9 W1_5 W21_10) rfl ⟨rfl, rfl⟩ (by decide +kernel) rfl ⟨Nat.le_of_ble_eq_true rfl, Nat.le_of_ble_eq_true rfl⟩ (fun _ _ h => by simp at h) ⟨fun _ _ _ _ h => by simp at h, fun _ _ h => by simp at h⟩ (zj_none hP hD hS hA) hS hl.1 rfl (Nat.le_of_ble_eq_true rfl) dX9_weighNow_118 ⟨Nat.zero_le _, Nat.zero_le _⟩ rfl (fun H locs hP hD hS => ?_)
        refine lv_if_eq (tgt := 166) X.1 X.2.1 dX9_weighNow_121 (by decide) (fun c16 => ?_) (fun c16 => ?_)
        · have hf := ite_t hf c16
          refine lv_iconst (v := 0) X.1 X.2.1 dX9_weighNow_166 (by decide) ?_
          refine lv_iadd X.1 X.2.1 dX9_weighNow_167 ?_
          obtain ⟨w17, ew17, hf⟩ := stp_e hf
          refine z_top ew17 ?_
          refine lv_istore (lv' := [(7, .int w17), (0, .ref (aM 0)), (1, .int n104_0), (2, .int n104_1), (3, .int n104_2), (4, .int n104_3), (5, .int n104_4), (6, .int n104_5), (8, .int n104_7)]) X.1 X.2.1 dX9_weighNow_168 hl (by decide) rfl (fun ls hl => ?_)
          obtain ⟨w18, ew18, hf⟩ := stp_e hf
          refine lv_iinc (v := w18) (lv' := [(8, .int w18), (7, .int w17), (0, .ref (aM 0)), (1, .int n104_0), (2, .int n104_1), (3, .int n104_2), (4, .int n104_3), (5, .int n104_4), (6, .int n104_5)]) X.1 X.2.1 dX9_weighNow_170 hl (k := 8) rfl (by rw [ew18]; rfl) (by decide) rfl (fun ls hl => ?_)
          refine lv_goto (tgt := 104) X.1 X.2.1 dX9_weighNow_173 (by decide) ?_
          exact ih _ _ _ _ _ _ _ _ _ hf _ _ hP hD hS _ (lv_sub hl [2, 3, 4, 5, 6, 7, 8, 1, 0] rfl)
        · have hf := ite_f hf c16
          refine lv_iload_n X.1 X.2.1 dX9_weighNow_124 rfl (lv_at hl 1 rfl) ?_
          refine lv_iload X.1 X.2.1 dX9_weighNow_125 (lv_at hl 8 rfl) ?_
          obtain ⟨r19, hc20, hf⟩ := bd1_e hf
          refine z_S (n := 2) (As := [.int n104_0, .int n104_7]) (rest := [.int n104_6]) X hK hN (kX9_isIn l D K _ n104_0 n104_7 r19 hc20) (bw_S W21_8 W21_9 W1_5 W21_10) rfl ⟨rfl, rfl⟩ (by decide +kernel) rfl ⟨Nat.le_of_ble_eq_true rfl, Nat.le_of_ble_eq_true rfl⟩ (fun _ _ h => by simp at h) ⟨fun _ _ _ _ h => by simp at h, fun _ _ h => by simp at h⟩ (zj_none hP hD hS hA) hS hl.1 rfl (Nat.le_of_ble_eq_true rfl) dX9_weighNow_127 ⟨Nat.zero_le _, Nat.zero_le _⟩ rfl (fun H locs hP hD hS => ?_)
          refine lv_if_eq (tgt := 166) X.1 X.2.1 dX9_weighNow_130 (by decide) (fun c21 => ?_) (fun c21 => ?_)
          · have hf := ite_t hf c21
            refine lv_iconst (v := 0) X.1 X.2.1 dX9_weighNow_166 (by decide) ?_
            refine lv_iadd X.1 X.2.1 dX9_weighNow_167 ?_
            obtain ⟨w22, ew22, hf⟩ := stp_e hf
            refine z_top ew22 ?_
            refine lv_istore (lv' := [(7, .int w22), (0, .ref (aM 0)), (1, .int n104_0), (2, .int n104_1), (3, .int n104_2), (4, .int n104_3), (5, .int n104_4), (6, .int n104_5), (8, .int n104_7)]) X.1 X.2.1 dX9_weighNow_168 hl (by decide) rfl (fun ls hl => ?_)
            obtain ⟨w23, ew23, hf⟩ := stp_e hf
            refine lv_iinc (v := w23) (lv' := [(8, .int w23), (7, .int w22), (0, .ref (aM 0)), (1, .int n104_0), (2, .int n104_1), (3, .int n104_2), (4, .int n104_3), (5, .int n104_4), (6, .int n104_5)]) X.1 X.2.1 dX9_weighNow_170 hl (k := 8) rfl (by rw [ew23]; rfl) (by decide) rfl (fun ls hl => ?_)
            refine lv_goto (tgt := 104) X.1 X.2.1 dX9_weighNow_173 (by decide) ?_
            exact ih _ _ _ _ _ _ _ _ _ hf _ _ hP hD hS _ (lv_sub hl [2, 3, 4, 5, 6, 7, 8, 1, 0] rfl)
          · have hf := ite_f hf c21
            refine lv_aload_n X.1 X.2.1 dX9_weighNow_133 rfl (lv_at hl 0 rfl) ?_
            refine z_get X hK hP hiX9 0 rfl rfl 37 (by decide) (bw_in W7_13) rfl dX9_weighNow_134 ?_
            refine lv_bipush (v := 100) X.1 X.2.1 dX9_weighNow_137 (by decide) ?_
            refine lv_iload X.1 X.2.1 dX9_weighNow_139 (lv_at hl 6 rfl) ?_
            refine lv_imul X.1 X.2.1 dX9_weighNow_141 ?_
            refine lv_iload X.1 X.2.1 dX9_weighNow_142 (lv_at hl 4 rfl) ?_
            refine lv_iadd X.1 X.2.1 dX9_weighNow_144 ?_
            obtain ⟨hi25, hf⟩ := chk_e hf
            obtain ⟨v24, ev24, hf⟩ := stp_e hf
            refine z_iald X hK hP 22 rfl hi25 ev24 dX9_weighNow_145 ?_
            refine lv_aload_n X.1 X.2.1 dX9_weighNow_146 rfl (lv_at hl 0 rfl) ?_
            refine z_get X hK hP hiX9 0 rfl rfl 37 (by decide) (bw_in W7_13) rfl dX9_weighNow_147 ?_
            refine lv_bipush (v := 100) X.1 X.2.1 dX9_weighNow_150 (by decide) ?_
            refine lv_iload X.1 X.2.1 dX9_weighNow_152 (lv_at hl 8 rfl) ?_
            refine lv_imul X.1 X.2.1 dX9_weighNow_154 ?_
            refine lv_iload X.1 X.2.1 dX9_weighNow_155 (lv_at hl 4 rfl) ?_
            refine lv_iadd X.1 X.2.1 dX9_weighNow_157 ?_
            obtain ⟨hi27, hf⟩ := chk_e hf
            obtain ⟨v26, ev26, hf⟩ := stp_e hf
            refine z_iald X hK hP 22 rfl hi27 ev26 dX9_weighNow_158 ?_
            refine lv_icmp_ne (tgt := 166) X.1 X.2.1 dX9_weighNow_159 (by decide) (fun c28 => ?_) (fun c28 => ?_)
            · have hf := ite_f hf c28
              refine lv_iconst (v := 0) X.1 X.2.1 dX9_weighNow_166 (by decide) ?_
              refine lv_iadd X.1 X.2.1 dX9_weighNow_167 ?_
              obtain ⟨w29, ew29, hf⟩ := stp_e hf
              refine z_top ew29 ?_
              refine lv_istore (lv' := [(7, .int w29), (0, .ref (aM 0)), (1, .int n104_0), (2, .int n104_1), (3, .int n104_2), (4, .int n104_3), (5, .int n104_4), (6, .int n104_5), (8, .int n104_7)]) X.1 X.2.1 dX9_weighNow_168 hl (by decide) rfl (fun ls hl => ?_)
              obtain ⟨w30, ew30, hf⟩ := stp_e hf
              refine lv_iinc (v := w30) (lv' := [(8, .int w30), (7, .int w29), (0, .ref (aM 0)), (1, .int n104_0), (2, .int n104_1), (3, .int n104_2), (4, .int n104_3), (5, .int n104_4), (6, .int n104_5)]) X.1 X.2.1 dX9_weighNow_170 hl (k := 8) rfl (by rw [ew30]; rfl) (by decide) rfl (fun ls hl => ?_)
              refine lv_goto (tgt := 104) X.1 X.2.1 dX9_weighNow_173 (by decide) ?_
              exact ih _ _ _ _ _ _ _ _ _ hf _ _ hP hD hS _ (lv_sub hl [2, 3, 4, 5, 6, 7, 8, 1, 0] rfl)
            · have hf := ite_t hf c28
              refine lv_iconst (v := 1) X.1 X.2.1 dX9_weighNow_162 (by decide) ?_
              refine lv_goto (tgt := 167) X.1 X.2.1 dX9_weighNow_163 (by decide) ?_
              refine lv_iadd X.1 X.2.1 dX9_weighNow_167 ?_
              obtain ⟨w31, ew31, hf⟩ := stp_e hf
              refine z_top ew31 ?_
              refine lv_istore (lv' := [(7, .int w31), (0, .ref (aM 0)), (1, .int n104_0), (2, .int n104_1), (3, .int n104_2), (4, .int n104_3), (5, .int n104_4), (6, .int n104_5), (8, .int n104_7)]) X.1 X.2.1 dX9_weighNow_168 hl (by decide) rfl (fun ls hl => ?_)
              obtain ⟨w32, ew32, hf⟩ := stp_e hf
              refine lv_iinc (v := w32) (lv' := [(8, .int w32), (7, .int w31), (0, .ref (aM 0)), (1, .int n104_0), (2, .int n104_1), (3, .int n104_2), (4, .int n104_3), (5, .int n104_4), (6, .int n104_5)]) X.1 X.2.1 dX9_weighNow_170 hl (k := 8) rfl (by rw [ew32]; rfl) (by decide) rfl (fun ls hl => ?_)
              refine lv_goto (tgt := 104) X.1 X.2.1 dX9_weighNow_173 (by decide) ?_
              exact ih _ _ _ _ _ _ _ _ _ hf _ _ hP hD hS _ (lv_sub hl [2, 3, 4, 5, 6, 7, 8, 1, 0] rfl)
  have L89_2 : ∀ (rec76 : Int32 → Int32 → Int32 → Int32 → St → Option (Int32 × St)) (hrec76 : ∀ (n76_0 : Int32) (n76_1 : Int32) (n76_2 : Int32) (n76_3 : Int32) (q76_M : St), rec76 n76_0 n76_1 n76_2 n76_3 q76_M = some ((q_, s_)) → ∀ (H : Heap) (locs : List Loc), va_P D vwCl (wbX9 K aM q76_M) H → va_D A (wbX9 K aM q76_M) → va_S A s.heap H locs → ∀ (ls : Array Slot), lv_has ls 9 [(0, .ref (aM 0)), (1, .int n76_0), (2, .int n76_1), (3, .int n76_2), (4, .int n76_3)] → W p l e rmX9_weighNow s m ([.ref (aM 0)] : List Value).toArray below meth c H locs 0 0 (MQ below (zQ (some (.int q_)) D A (wbX9 K aM s_)) ([.ref (aM 0)] : List Value).toArray s 0 0 A) (F0 m 76 ls [])), ∀ (n : Nat), ∀ (n89_0 : Int32) (n89_1 : Int32) (n89_2 : Int32) (n89_3 : Int32) (n89_4 : Int32) (n89_5 : Int32) (q89_M : St), fX9_weighNow_89 rec76 n n89_0 n89_1 n89_2 n89_3 n89_4 n89_5 q89_M = some ((q_, s_)) → ∀ (H : Heap) (locs : List Loc), va_P D vwCl (wbX9 K aM q89_M) H → va_D A (wbX9 K aM q89_M) → va_S A s.heap H locs → ∀ (ls : Array Slot), lv_has ls 9 [(0, .ref (aM 0)), (1, .int n89_0), (2, .int n89_1), (3, .int n89_2), (4, .int n89_3), (5, .int n89_4), (6, .int n89_5)] → W p l e rmX9_weighNow s m ([.ref (aM 0)] : List Value).toArray below meth c H locs 0 0 (MQ below (zQ (some (.int q_)) D A (wbX9 K aM s_)) ([.ref (aM 0)] : List Value).toArray s 0 0 A) (F0 m 89 ls []) := by
    intro rec76 hrec76 n
    induction n with
    | zero =>
      intro n89_0 n89_1 n89_2 n89_3 n89_4 n89_5 q89_M hf
      rw [fX9_weighNow_89] at hf
      cases hf
    | succ n ih =>
      intro n89_0 n89_1 n89_2 n89_3 n89_4 n89_5 q89_M hf H locs hP hD hS ls hl
      rw [fX9_weighNow_89] at hf
      refine lv_iload X.1 X.2.1 dX9_weighNow_89 (lv_at hl 6 rfl) ?_
      refine lv_aload_n X.1 X.2.1 dX9_weighNow_91 rfl (lv_at hl 0 rfl) ?_
      refine z_get X hK hP hiX9 0 rfl rfl 6 (by decide) (bw_in W10_13) rfl dX9_weighNow_92 ?_
      refine lv_icmp_ge (tgt := 198) X.1 X.2.1 dX9_weighNow_95 (by decide) (fun c6 => ?_) (fun c6 => ?_)
      · have hf := ite_t hf c6
        refine lv_iload X.1 X.2.1 dX9_weighNow_198 (lv_at hl 5 rfl) ?_
        refine lv_iload_n X.1 X.2.1 dX9_weighNow_200 rfl (lv_at hl 3 rfl) ?_
        refine lv_icmp_ge (tgt := 209) X.1 X.2.1 dX9_weighNow_201 (by decide) (fun c7 => ?_) (fun c7 => ?_)
        · have hf := ite_t hf c7
          refine lv_iload_n X.1 X.2.1 dX9_weighNow_209 rfl (lv_at hl 2 rfl) ?_
          refine lv_istore_n (lv' := [(2, .int n89_1), (0, .ref (aM 0)), (1, .int n89_0), (3, .int n89_2), (4, .int n89_3), (5, .int n89_4), (6, .int n89_5)]) X.1 X.2.1 dX9_weighNow_210 rfl hl (by decide) rfl (fun ls hl => ?_)
          refine lv_iload X.1 X.2.1 dX9_weighNow_211 (lv_at hl 5 rfl) ?_
          refine lv_iload_n X.1 X.2.1 dX9_weighNow_213 rfl (lv_at hl 3 rfl) ?_
          refine lv_icmp_ge (tgt := 222) X.1 X.2.1 dX9_weighNow_214 (by decide) (fun _ => ?_) (fun c => absurd c7 c)
          refine lv_iload_n X.1 X.2.1 dX9_weighNow_222 rfl (lv_at hl 3 rfl) ?_
          refine lv_istore_n (lv' := [(3, .int n89_2), (2, .int n89_1), (0, .ref (aM 0)), (1, .int n89_0), (4, .int n89_3), (5, .int n89_4), (6, .int n89_5)]) X.1 X.2.1 dX9_weighNow_223 rfl hl (by decide) rfl (fun ls hl => ?_)
          obtain ⟨w8, ew8, hf⟩ := stp_e hf
          refine lv_iinc (v := w8) (lv' := [(4, .int w8), (3, .int n89_2), (2, .int n89_1), (0, .ref (aM 0)), (1, .int n89_0), (5, .int n89_4), (6, .int n89_5)]) X.1 X.2.1 dX9_weighNow_224 hl (k := 4) rfl (by rw [ew8]; rfl) (by decide) rfl (fun ls hl => ?_)
          refine lv_goto (tgt := 76) X.1 X.2.1 dX9_weighNow_227 (by decide) ?_
          exact hrec76 _ _ _ _ _ hf _ _ hP hD hS _ (lv_sub hl [3, 4, 2, 1, 0] rfl)
        · have hf := ite_f hf c7
          refine lv_iload X.1 X.2.1 dX9_weighNow_204 (lv_at hl 4 rfl) ?_
          refine lv_goto (tgt := 210) X.1 X.2.1 dX9_weighNow_206 (by decide) ?_
          refine lv_istore_n (lv' := [(2, .int n89_3), (0, .ref (aM 0)), (1, .int n89_0), (3, .int n89_2), (4, .int n89_3), (5, .int n89_4), (6, .int n89_5)]) X.1 X.2.1 dX9_weighNow_210 rfl hl (by decide) rfl (fun ls hl => ?_)
          refine lv_iload X.1 X.2.1 dX9_weighNow_211 (lv_at hl 5 rfl) ?_
          refine lv_iload_n X.1 X.2.1 dX9_weighNow_213 rfl (lv_at hl 3 rfl) ?_
          refine lv_icmp_ge (tgt := 222) X.1 X.2.1 dX9_weighNow_214 (by decide) (fun c => absurd c c7) (fun _ => ?_)
          refine lv_iload X.1 X.2.1 dX9_weighNow_217 (lv_at hl 5 rfl) ?_
          refine lv_goto (tgt := 223) X.1 X.2.1 dX9_weighNow_219 (by decide) ?_
          refine lv_istore_n (lv' := [(3, .int n89_4), (2, .int n89_3), (0, .ref (aM 0)), (1, .int n89_0), (4, .int n89_3), (5, .int n89_4), (6, .int n89_5)]) X.1 X.2.1 dX9_weighNow_223 rfl hl (by decide) rfl (fun ls hl => ?_)
          obtain ⟨w9, ew9, hf⟩ := stp_e hf
          refine lv_iinc (v := w9) (lv' := [(4, .int w9), (3, .int n89_4), (2, .int n89_3), (0, .ref (aM 0)), (1, .int n89_0), (5, .int n89_4), (6, .int n89_5)]) X.1 X.2.1 dX9_weighNow_224 hl (k := 4) rfl (by rw [ew9]; rfl) (by decide) rfl (fun ls hl => ?_)
          refine lv_goto (tgt := 76) X.1 X.2.1 dX9_weighNow_227 (by decide) ?_
          exact hrec76 _ _ _ _ _ hf _ _ hP hD hS _ (lv_sub hl [3, 4, 2, 1, 0] rfl)
      · have hf := ite_f hf c6
        refine lv_iconst (v := 0) X.1 X.2.1 dX9_weighNow_98 (by decide) ?_
        refine lv_istore (lv' := [(7, .int 0), (0, .ref (aM 0)), (1, .int n89_0), (2, .int n89_1), (3, .int n89_2), (4, .int n89_3), (5, .int n89_4), (6, .int n89_5)]) X.1 X.2.1 dX9_weighNow_99 hl (by decide) rfl (fun ls hl => ?_)
        refine lv_iconst (v := 0) X.1 X.2.1 dX9_weighNow_101 (by decide) ?_
        refine lv_istore (lv' := [(8, .int 0), (7, .int 0), (0, .ref (aM 0)), (1, .int n89_0), (2, .int n89_1), (3, .int n89_2), (4, .int n89_3), (5, .int n89_4), (6, .int n89_5)]) X.1 X.2.1 dX9_weighNow_102 hl (by decide) rfl (fun ls hl => ?_)
        exact L104_3 _ hrec76 _ ih _ _ _ _ _ _ _ _ _ _ hf _ _ hP hD hS _ (lv_sub hl [2, 3, 4, 5, 6, 7, 8, 1, 0] rfl)
  have L76_1 : ∀ (n : Nat), ∀ (n76_0 : Int32) (n76_1 : Int32) (n76_2 : Int32) (n76_3 : Int32) (q76_M : St), fX9_weighNow_76 n n76_0 n76_1 n76_2 n76_3 q76_M = some ((q_, s_)) → ∀ (H : Heap) (locs : List Loc), va_P D vwCl (wbX9 K aM q76_M) H → va_D A (wbX9 K aM q76_M) → va_S A s.heap H locs → ∀ (ls : Array Slot), lv_has ls 9 [(0, .ref (aM 0)), (1, .int n76_0), (2, .int n76_1), (3, .int n76_2), (4, .int n76_3)] → W p l e rmX9_weighNow s m ([.ref (aM 0)] : List Value).toArray below meth c H locs 0 0 (MQ below (zQ (some (.int q_)) D A (wbX9 K aM s_)) ([.ref (aM 0)] : List Value).toArray s 0 0 A) (F0 m 76 ls []) := by
    intro n
    induction n with
    | zero =>
      intro n76_0 n76_1 n76_2 n76_3 q76_M hf
      rw [fX9_weighNow_76] at hf
      cases hf
    | succ n ih =>
      intro n76_0 n76_1 n76_2 n76_3 q76_M hf H locs hP hD hS ls hl
      rw [fX9_weighNow_76] at hf
      refine lv_iload X.1 X.2.1 dX9_weighNow_76 (lv_at hl 4 rfl) ?_
      refine lv_bipush (v := 100) X.1 X.2.1 dX9_weighNow_78 (by decide) ?_
      refine lv_icmp_ge (tgt := 230) X.1 X.2.1 dX9_weighNow_80 (by decide) (fun c5 => ?_) (fun c5 => ?_)
      · have hf := ite_t hf c5
        refine lv_iload_n X.1 X.2.1 dX9_weighNow_230 rfl (lv_at hl 2 rfl) ?_
        obtain ⟨rfl, rfl⟩ := z_inj2 hf
        exact z_iret X hr hlk hP hD hS dX9_weighNow_231
      · have hf := ite_f hf c5
        refine lv_iconst (v := 0) X.1 X.2.1 dX9_weighNow_83 (by decide) ?_
        refine lv_istore (lv' := [(5, .int 0), (0, .ref (aM 0)), (1, .int n76_0), (2, .int n76_1), (3, .int n76_2), (4, .int n76_3)]) X.1 X.2.1 dX9_weighNow_84 hl (by decide) rfl (fun ls hl => ?_)
        refine lv_iconst (v := 0) X.1 X.2.1 dX9_weighNow_86 (by decide) ?_
        refine lv_istore (lv' := [(6, .int 0), (5, .int 0), (0, .ref (aM 0)), (1, .int n76_0), (2, .int n76_1), (3, .int n76_2), (4, .int n76_3)]) X.1 X.2.1 dX9_weighNow_87 hl (by decide) rfl (fun ls hl => ?_)
        exact L89_2 _ ih _ _ _ _ _ _ _ _ hf _ _ hP hD hS _ (lv_sub hl [2, 3, 4, 5, 6, 1, 0] rfl)
  have L34_4 : ∀ (rec7 : Int32 → Int32 → St → Option (Int32 × St)) (hrec7 : ∀ (n7_0 : Int32) (n7_1 : Int32) (q7_M : St), rec7 n7_0 n7_1 q7_M = some ((q_, s_)) → ∀ (H : Heap) (locs : List Loc), va_P D vwCl (wbX9 K aM q7_M) H → va_D A (wbX9 K aM q7_M) → va_S A s.heap H locs → ∀ (ls : Array Slot), lv_has ls 9 [(0, .ref (aM 0)), (1, .int n7_0), (2, .int n7_1)] → W p l e rmX9_weighNow s m ([.ref (aM 0)] : List Value).toArray below meth c H locs 0 0 (MQ below (zQ (some (.int q_)) D A (wbX9 K aM s_)) ([.ref (aM 0)] : List Value).toArray s 0 0 A) (F0 m 7 ls [])), ∀ (n : Nat), ∀ (n34_0 : Int32) (n34_1 : Int32) (n34_2 : Int32) (q34_M : St), fX9_weighNow_34 rec7 n n34_0 n34_1 n34_2 q34_M = some ((q_, s_)) → ∀ (H : Heap) (locs : List Loc), va_P D vwCl (wbX9 K aM q34_M) H → va_D A (wbX9 K aM q34_M) → va_S A s.heap H locs → ∀ (ls : Array Slot), lv_has ls 9 [(0, .ref (aM 0)), (1, .int n34_0), (2, .int n34_1), (3, .int n34_2)] → W p l e rmX9_weighNow s m ([.ref (aM 0)] : List Value).toArray below meth c H locs 0 0 (MQ below (zQ (some (.int q_)) D A (wbX9 K aM s_)) ([.ref (aM 0)] : List Value).toArray s 0 0 A) (F0 m 34 ls []) := by
    intro rec7 hrec7 n
    induction n with
    | zero =>
      intro n34_0 n34_1 n34_2 q34_M hf
      rw [fX9_weighNow_34] at hf
      cases hf
    | succ n ih =>
      intro n34_0 n34_1 n34_2 q34_M hf H locs hP hD hS ls hl
      rw [fX9_weighNow_34] at hf
      refine lv_iload_n X.1 X.2.1 dX9_weighNow_34 rfl (lv_at hl 3 rfl) ?_
      refine lv_bipush (v := 100) X.1 X.2.1 dX9_weighNow_35 (by decide) ?_
      refine lv_icmp_ge (tgt := 62) X.1 X.2.1 dX9_weighNow_37 (by decide) (fun c36 => ?_) (fun c36 => ?_)
      · have hf := ite_t hf c36
        obtain ⟨w37, ew37, hf⟩ := stp_e hf
        refine lv_iinc (v := w37) (lv' := [(2, .int w37), (0, .ref (aM 0)), (1, .int n34_0), (3, .int n34_2)]) X.1 X.2.1 dX9_weighNow_62 hl (k := 2) rfl (by rw [ew37]; rfl) (by decide) rfl (fun ls hl => ?_)
        refine lv_goto (tgt := 7) X.1 X.2.1 dX9_weighNow_65 (by decide) ?_
        exact hrec7 _ _ _ hf _ _ hP hD hS _ (lv_sub hl [1, 2, 0] rfl)
      · have hf := ite_f hf c36
        refine lv_aload_n X.1 X.2.1 dX9_weighNow_40 rfl (lv_at hl 0 rfl) ?_
        refine z_get X hK hP hiX9 0 rfl rfl 37 (by decide) (bw_in W7_13) rfl dX9_weighNow_41 ?_
        refine lv_bipush (v := 100) X.1 X.2.1 dX9_weighNow_44 (by decide) ?_
        refine lv_iload_n X.1 X.2.1 dX9_weighNow_46 rfl (lv_at hl 2 rfl) ?_
        refine lv_imul X.1 X.2.1 dX9_weighNow_47 ?_
        refine lv_iload_n X.1 X.2.1 dX9_weighNow_48 rfl (lv_at hl 3 rfl) ?_
        refine lv_iadd X.1 X.2.1 dX9_weighNow_49 ?_
        refine lv_aload_n X.1 X.2.1 dX9_weighNow_50 rfl (lv_at hl 0 rfl) ?_
        refine lv_iload_n X.1 X.2.1 dX9_weighNow_51 rfl (lv_at hl 3 rfl) ?_
        obtain ⟨r38, hc39, hf⟩ := bd1_e hf
        refine z_V (n := 1) (As := [.int n34_2]) (rest := [.int (((100 : Int32) * n34_1) + n34_2), .ref (aM 38)]) (ci := 9) (q0 := 0) X hK hN (kX9_loadBehind l D K aM q34_M _ n34_2 r38 hc39) (bw_V W33_19 W33_20 W33_21 W1_5 W33_22) rfl ⟨rfl, rfl⟩ (by decide +kernel) rfl ⟨Nat.le_of_ble_eq_true rfl, Nat.le_of_ble_eq_true rfl⟩ hP hD rfl rfl (zj_same hD hS hA) hS hl.1 rfl (Nat.le_of_ble_eq_true rfl) dX9_weighNow_52 ⟨Nat.zero_le _, Nat.zero_le _⟩ rfl (fun H locs hP hD hS => ?_)
        obtain ⟨hi40, hf⟩ := chk_e hf
        obtain ⟨s41, es41, hf⟩ := stp_e hf
        refine z_iast (ws' := wbX9 K aM s41) X hK hP hD hS 22 rfl hi40 dX9_weighNow_55 (by rw [es41]; rfl) (fun H locs hP hD hS => ?_)
        obtain ⟨w42, ew42, hf⟩ := stp_e hf
        refine lv_iinc (v := w42) (lv' := [(3, .int w42), (0, .ref (aM 0)), (1, .int n34_0), (2, .int n34_1)]) X.1 X.2.1 dX9_weighNow_56 hl (k := 3) rfl (by rw [ew42]; rfl) (by decide) rfl (fun ls hl => ?_)
        refine lv_goto (tgt := 34) X.1 X.2.1 dX9_weighNow_59 (by decide) ?_
        exact ih _ _ _ _ hf _ _ hP hD hS _ (lv_sub hl [1, 2, 3, 0] rfl)
  have L7_0 : ∀ (n : Nat), ∀ (n7_0 : Int32) (n7_1 : Int32) (q7_M : St), fX9_weighNow_7 n n7_0 n7_1 q7_M = some ((q_, s_)) → ∀ (H : Heap) (locs : List Loc), va_P D vwCl (wbX9 K aM q7_M) H → va_D A (wbX9 K aM q7_M) → va_S A s.heap H locs → ∀ (ls : Array Slot), lv_has ls 9 [(0, .ref (aM 0)), (1, .int n7_0), (2, .int n7_1)] → W p l e rmX9_weighNow s m ([.ref (aM 0)] : List Value).toArray below meth c H locs 0 0 (MQ below (zQ (some (.int q_)) D A (wbX9 K aM s_)) ([.ref (aM 0)] : List Value).toArray s 0 0 A) (F0 m 7 ls []) := by
    intro n
    induction n with
    | zero =>
      intro n7_0 n7_1 q7_M hf
      rw [fX9_weighNow_7] at hf
      cases hf
    | succ n ih =>
      intro n7_0 n7_1 q7_M hf H locs hP hD hS ls hl
      rw [fX9_weighNow_7] at hf
      refine lv_iload_n X.1 X.2.1 dX9_weighNow_7 rfl (lv_at hl 2 rfl) ?_
      refine lv_aload_n X.1 X.2.1 dX9_weighNow_8 rfl (lv_at hl 0 rfl) ?_
      refine z_get X hK hP hiX9 0 rfl rfl 6 (by decide) (bw_in W10_13) rfl dX9_weighNow_9 ?_
      refine lv_icmp_ge (tgt := 68) X.1 X.2.1 dX9_weighNow_12 (by decide) (fun c4 => ?_) (fun c4 => ?_)
      · have hf := ite_t hf c4
        refine lv_iconst (v := 0) X.1 X.2.1 dX9_weighNow_68 (by decide) ?_
        refine lv_istore_n (lv' := [(2, .int 0), (0, .ref (aM 0)), (1, .int n7_0)]) X.1 X.2.1 dX9_weighNow_69 rfl hl (by decide) rfl (fun ls hl => ?_)
        refine lv_bipush (v := 9) X.1 X.2.1 dX9_weighNow_70 (by decide) ?_
        refine lv_istore_n (lv' := [(3, .int 9), (2, .int 0), (0, .ref (aM 0)), (1, .int n7_0)]) X.1 X.2.1 dX9_weighNow_72 rfl hl (by decide) rfl (fun ls hl => ?_)
        refine lv_iconst (v := 0) X.1 X.2.1 dX9_weighNow_73 (by decide) ?_
        refine lv_istore (lv' := [(4, .int 0), (3, .int 9), (2, .int 0), (0, .ref (aM 0)), (1, .int n7_0)]) X.1 X.2.1 dX9_weighNow_74 hl (by decide) rfl (fun ls hl => ?_)
        exact L76_1  _ _ _ _ _ _ hf _ _ hP hD hS _ (lv_sub hl [3, 4, 2, 1, 0] rfl)
      · have hf := ite_f hf c4
        refine lv_aload_n X.1 X.2.1 dX9_weighNow_15 rfl (lv_at hl 0 rfl) ?_
        refine lv_sipush (v := 255) X.1 X.2.1 dX9_weighNow_16 (by decide) ?_
        refine lv_iconst (v := 1) X.1 X.2.1 dX9_weighNow_19 (by decide) ?_
        refine lv_iload_n X.1 X.2.1 dX9_weighNow_20 rfl (lv_at hl 2 rfl) ?_
        refine lv_ishl X.1 X.2.1 dX9_weighNow_21 ?_
        refine lv_iconst (v := -1) X.1 X.2.1 dX9_weighNow_22 (by decide) ?_
        refine lv_ixor X.1 X.2.1 dX9_weighNow_23 ?_
        refine lv_iand X.1 X.2.1 dX9_weighNow_24 ?_
        obtain ⟨s33, es33, hf⟩ := stp_e hf
        refine z_put (ws' := wbX9 K aM s33) X hK hP hD hS hiX9 tyX9_ok nmX9 0 rfl rfl 15 (by decide) (bw_in W20_8) rfl rfl rfl (Nat.le_of_ble_eq_true rfl) dX9_weighNow_25 (by rw [es33]; rfl) (fun H locs hP hD hS => ?_)
        refine lv_aload_n X.1 X.2.1 dX9_weighNow_28 rfl (lv_at hl 0 rfl) ?_
        obtain ⟨s34, hc35, hf⟩ := bd1_e hf
        refine z_V (n := 0) (As := []) (rest := []) (ci := 9) (q0 := 0) X hK hN (kX9_runs l D K aM s33 _ s34 hc35) (bw_V W20_9 W20_10 W20_11 W1_5 W20_12) rfl ⟨rfl, rfl⟩ (by decide +kernel) rfl ⟨Nat.le_of_ble_eq_true rfl, Nat.le_of_ble_eq_true rfl⟩ hP hD rfl rfl (zj_same hD hS hA) hS hl.1 rfl (Nat.le_of_ble_eq_true rfl) dX9_weighNow_29 ⟨Nat.zero_le _, Nat.zero_le _⟩ rfl (fun H locs hP hD hS => ?_)
        refine lv_iconst (v := 0) X.1 X.2.1 dX9_weighNow_32 (by decide) ?_
        refine lv_istore_n (lv' := [(3, .int 0), (0, .ref (aM 0)), (1, .int n7_0), (2, .int n7_1)]) X.1 X.2.1 dX9_weighNow_33 rfl hl (by decide) rfl (fun ls hl => ?_)
        exact L34_4 _ ih _ _ _ _ _ hf _ _ hP hD hS _ (lv_sub hl [1, 2, 3, 0] rfl)
  rw [fX9_weighNow] at hf
  refine lv_aload_n X.1 X.2.1 dX9_weighNow_0 rfl (lv_at hl 0 rfl) ?_
  obtain ⟨r1, s2, hc3, hf⟩ := bd2_e hf
  refine z_V (n := 0) (As := []) (rest := []) (ci := 9) (q0 := 0) X hK hN (kX9_neverNow l D K aM s0 _ r1 s2 hc3) (bw_V W33_11 W33_12 W33_13 W1_5 W33_14) rfl ⟨rfl, rfl⟩ (by decide +kernel) rfl ⟨Nat.le_of_ble_eq_true rfl, Nat.le_of_ble_eq_true rfl⟩ hP hD rfl rfl (zj_same hD hS hA) hS hl.1 rfl (Nat.le_of_ble_eq_true rfl) dX9_weighNow_1 ⟨Nat.zero_le _, Nat.zero_le _⟩ rfl (fun H locs hP hD hS => ?_)
  refine lv_istore_n (lv' := [(1, .int r1), (0, .ref (aM 0))]) X.1 X.2.1 dX9_weighNow_4 rfl hl (by decide) rfl (fun ls hl => ?_)
  refine lv_iconst (v := 0) X.1 X.2.1 dX9_weighNow_5 (by decide) ?_
  refine lv_istore_n (lv' := [(2, .int 0), (1, .int r1), (0, .ref (aM 0))]) X.1 X.2.1 dX9_weighNow_6 rfl hl (by decide) rfl (fun ls hl => ?_)
  exact L7_0  _ _ _ _ hf _ _ hP hD hS _ (lv_sub hl [2, 1, 0] rfl)
abbrev rmX9_isRider : Room := { frames := 6, cells := 0, slots := 0, locals := 142 }
set_option maxHeartbeats 4000000 in
set_option maxRecDepth 100000 in
theorem kX9_isRider (l : Launch) (D : va_G) (K : Nat → ClassId) (aM : Nat → Nat) (s0 : St) (sz : Nat) (x1 : Int32) (q_ : Int32) (s_ : St) (hf : fX9_isRider s0 x1 = some (q_, s_)) : Met l yX9_isRider (bw (Cond.code yX9_isRider cX9_isRider 2 (some .boolean))) rmX9_isRider (va_Pc [.ref (aM 0), .int x1] (zB D K sz (wbX9 K aM s0))) (zQ (some (.int q_)) D (va_A (wbX9 K aM s0) sz) (wbX9 K aM s_)) 0 0 (va_A (wbX9 K aM s0) sz) := by
  refine z_of (cc := cX9_isRider) (maxL := 2) (ret := (some .boolean)) (own := RX9) (lv := [(0, .ref (aM 0)), (1, .int x1)]) (by decide) rfl rfl (Nat.le_of_ble_eq_true rfl) rfl ?_
  intro p e s m below meth c X hr hlk hK hN hsz hP hD hA hS hin ls hl
  generalize va_A (wbX9 K aM s0) sz = A at hD hA hS hN ⊢
  have hiX9 : ∀ w ∈ u_ws RX9 TX9 44, w ∈ (bw (Cond.code yX9_isRider cX9_isRider 2 (some .boolean))) := fun w h => bw_in (inlX9 w h)
  rw [fX9_isRider] at hf
  refine lv_aload_n X.1 X.2.1 dX9_isRider_0 rfl (lv_at hl 0 rfl) ?_
  obtain ⟨s1, hc2, hf⟩ := bd1_e hf
  refine z_V (n := 0) (As := []) (rest := []) (ci := 9) (q0 := 0) X hK hN (kX9_reads l D K aM s0 _ s1 hc2) (bw_V W16_13 W16_14 W16_15 W1_5 W16_16) rfl ⟨rfl, rfl⟩ (by decide +kernel) rfl ⟨Nat.le_of_ble_eq_true rfl, Nat.le_of_ble_eq_true rfl⟩ hP hD rfl rfl (zj_same hD hS hA) hS hl.1 rfl (Nat.le_of_ble_eq_true rfl) dX9_isRider_1 ⟨Nat.zero_le _, Nat.zero_le _⟩ rfl (fun H locs hP hD hS => ?_)
  refine lv_iload_n X.1 X.2.1 dX9_isRider_4 rfl (lv_at hl 1 rfl) ?_
  refine lv_iconst (v := 0) X.1 X.2.1 dX9_isRider_5 (by decide) ?_
  refine lv_aload_n X.1 X.2.1 dX9_isRider_6 rfl (lv_at hl 0 rfl) ?_
  refine z_get X hK hP hiX9 0 rfl rfl 2 (by decide) (bw_in W10_12) rfl dX9_isRider_7 ?_
  refine lv_iconst (v := 1) X.1 X.2.1 dX9_isRider_10 (by decide) ?_
  refine lv_isub X.1 X.2.1 dX9_isRider_11 ?_
  obtain ⟨r3, hc4, hf⟩ := bd1_e hf
  refine z_S (n := 3) (As := [.int x1, .int 0, .int ((s1 0 2) - 1)]) (rest := []) X hK hN (kX9_in l D K _ x1 0 ((s1 0 2) - 1) r3 hc4) (bw_S W8_17 W8_18 W1_5 W8_19) rfl ⟨rfl, rfl⟩ (by decide +kernel) rfl ⟨Nat.le_of_ble_eq_true rfl, Nat.le_of_ble_eq_true rfl⟩ (fun _ _ h => by simp at h) ⟨fun _ _ _ _ h => by simp at h, fun _ _ h => by simp at h⟩ (zj_none hP hD hS hA) hS hl.1 rfl (Nat.le_of_ble_eq_true rfl) dX9_isRider_12 ⟨Nat.zero_le _, Nat.zero_le _⟩ rfl (fun H locs hP hD hS => ?_)
  obtain ⟨hb1, hf⟩ := asr_e hf
  obtain ⟨rfl, rfl⟩ := z_inj2 hf
  exact z_zret X hr hlk hb1 hP hD hS dX9_isRider_15
abbrev rmX9_isLeaver : Room := { frames := 6, cells := 0, slots := 0, locals := 142 }
set_option maxHeartbeats 4000000 in
set_option maxRecDepth 100000 in
theorem kX9_isLeaver (l : Launch) (D : va_G) (K : Nat → ClassId) (aM : Nat → Nat) (s0 : St) (sz : Nat) (x1 : Int32) (q_ : Int32) (s_ : St) (hf : fX9_isLeaver s0 x1 = some (q_, s_)) : Met l yX9_isLeaver (bw (Cond.code yX9_isLeaver cX9_isLeaver 2 (some .boolean))) rmX9_isLeaver (va_Pc [.ref (aM 0), .int x1] (zB D K sz (wbX9 K aM s0))) (zQ (some (.int q_)) D (va_A (wbX9 K aM s0) sz) (wbX9 K aM s_)) 0 0 (va_A (wbX9 K aM s0) sz) := by
  refine z_of (cc := cX9_isLeaver) (maxL := 2) (ret := (some .boolean)) (own := RX9) (lv := [(0, .ref (aM 0)), (1, .int x1)]) (by decide) rfl rfl (Nat.le_of_ble_eq_true rfl) rfl ?_
  intro p e s m below meth c X hr hlk hK hN hsz hP hD hA hS hin ls hl
  generalize va_A (wbX9 K aM s0) sz = A at hD hA hS hN ⊢
  have hiX9 : ∀ w ∈ u_ws RX9 TX9 44, w ∈ (bw (Cond.code yX9_isLeaver cX9_isLeaver 2 (some .boolean))) := fun w h => bw_in (inlX9 w h)
  rw [fX9_isLeaver] at hf
  refine lv_aload_n X.1 X.2.1 dX9_isLeaver_0 rfl (lv_at hl 0 rfl) ?_
  obtain ⟨s1, hc2, hf⟩ := bd1_e hf
  refine z_V (n := 0) (As := []) (rest := []) (ci := 9) (q0 := 0) X hK hN (kX9_reads l D K aM s0 _ s1 hc2) (bw_V W16_13 W16_14 W16_15 W1_5 W16_16) rfl ⟨rfl, rfl⟩ (by decide +kernel) rfl ⟨Nat.le_of_ble_eq_true rfl, Nat.le_of_ble_eq_true rfl⟩ hP hD rfl rfl (zj_same hD hS hA) hS hl.1 rfl (Nat.le_of_ble_eq_true rfl) dX9_isLeaver_1 ⟨Nat.zero_le _, Nat.zero_le _⟩ rfl (fun H locs hP hD hS => ?_)
  refine lv_iload_n X.1 X.2.1 dX9_isLeaver_4 rfl (lv_at hl 1 rfl) ?_
  refine lv_iconst (v := 0) X.1 X.2.1 dX9_isLeaver_5 (by decide) ?_
  refine lv_aload_n X.1 X.2.1 dX9_isLeaver_6 rfl (lv_at hl 0 rfl) ?_
  refine z_get X hK hP hiX9 0 rfl rfl 6 (by decide) (bw_in W10_13) rfl dX9_isLeaver_7 ?_
  refine lv_iconst (v := 1) X.1 X.2.1 dX9_isLeaver_10 (by decide) ?_
  refine lv_isub X.1 X.2.1 dX9_isLeaver_11 ?_
  obtain ⟨r3, hc4, hf⟩ := bd1_e hf
  refine z_S (n := 3) (As := [.int x1, .int 0, .int ((s1 0 6) - 1)]) (rest := []) X hK hN (kX9_in l D K _ x1 0 ((s1 0 6) - 1) r3 hc4) (bw_S W8_17 W8_18 W1_5 W8_19) rfl ⟨rfl, rfl⟩ (by decide +kernel) rfl ⟨Nat.le_of_ble_eq_true rfl, Nat.le_of_ble_eq_true rfl⟩ (fun _ _ h => by simp at h) ⟨fun _ _ _ _ h => by simp at h, fun _ _ h => by simp at h⟩ (zj_none hP hD hS hA) hS hl.1 rfl (Nat.le_of_ble_eq_true rfl) dX9_isLeaver_12 ⟨Nat.zero_le _, Nat.zero_le _⟩ rfl (fun H locs hP hD hS => ?_)
  obtain ⟨hb1, hf⟩ := asr_e hf
  obtain ⟨rfl, rfl⟩ := z_inj2 hf
  exact z_zret X hr hlk hb1 hP hD hS dX9_isLeaver_15
abbrev rmX9_isSpared : Room := { frames := 7, cells := 0, slots := 0, locals := 163 }
set_option maxHeartbeats 4000000 in
set_option maxRecDepth 100000 in
theorem kX9_isSpared (l : Launch) (D : va_G) (K : Nat → ClassId) (aM : Nat → Nat) (s0 : St) (sz : Nat) (x1 : Int32) (x2 : Int32) (x3 : Int32) (x4 : Int32) (q_ : Int32) (s_ : St) (hf : fX9_isSpared s0 x1 x2 x3 x4 = some (q_, s_)) : Met l yX9_isSpared (bw (Cond.code yX9_isSpared cX9_isSpared 6 (some .boolean))) rmX9_isSpared (va_Pc [.ref (aM 0), .int x1, .int x2, .int x3, .int x4] (zB D K sz (wbX9 K aM s0))) (zQ (some (.int q_)) D (va_A (wbX9 K aM s0) sz) (wbX9 K aM s_)) 0 0 (va_A (wbX9 K aM s0) sz) := by
  refine z_of (cc := cX9_isSpared) (maxL := 6) (ret := (some .boolean)) (own := RX9) (lv := [(0, .ref (aM 0)), (1, .int x1), (2, .int x2), (3, .int x3), (4, .int x4)]) (by decide) rfl rfl (Nat.le_of_ble_eq_true rfl) rfl ?_
  intro p e s m below meth c X hr hlk hK hN hsz hP hD hA hS hin ls hl
  generalize va_A (wbX9 K aM s0) sz = A at hD hA hS hN ⊢
  have hiX9 : ∀ w ∈ u_ws RX9 TX9 44, w ∈ (bw (Cond.code yX9_isSpared cX9_isSpared 6 (some .boolean))) := fun w h => bw_in (inlX9 w h)
  have L12_0 : ∀ (n : Nat), ∀ (n12_0 : Int32) (n12_1 : Int32) (n12_2 : Int32) (n12_3 : Int32) (n12_4 : Int32) (q12_M : St), fX9_isSpared_12 n n12_0 n12_1 n12_2 n12_3 n12_4 q12_M = some ((q_, s_)) → ∀ (H : Heap) (locs : List Loc), va_P D vwCl (wbX9 K aM q12_M) H → va_D A (wbX9 K aM q12_M) → va_S A s.heap H locs → ∀ (ls : Array Slot), lv_has ls 6 [(0, .ref (aM 0)), (1, .int n12_0), (2, .int n12_1), (3, .int n12_2), (4, .int n12_3), (5, .int n12_4)] → W p l e rmX9_isSpared s m ([.ref (aM 0), .int x1, .int x2, .int x3, .int x4] : List Value).toArray below meth c H locs 0 0 (MQ below (zQ (some (.int q_)) D A (wbX9 K aM s_)) ([.ref (aM 0), .int x1, .int x2, .int x3, .int x4] : List Value).toArray s 0 0 A) (F0 m 12 ls []) := by
    intro n
    induction n with
    | zero =>
      intro n12_0 n12_1 n12_2 n12_3 n12_4 q12_M hf
      rw [fX9_isSpared_12] at hf
      cases hf
    | succ n ih =>
      intro n12_0 n12_1 n12_2 n12_3 n12_4 q12_M hf H locs hP hD hS ls hl
      rw [fX9_isSpared_12] at hf
      refine lv_iload X.1 X.2.1 dX9_isSpared_12 (lv_at hl 5 rfl) ?_
      refine lv_aload_n X.1 X.2.1 dX9_isSpared_14 rfl (lv_at hl 0 rfl) ?_
      refine z_get X hK hP hiX9 0 rfl rfl 9 (by decide) (bw_in W11_6) rfl dX9_isSpared_15 ?_
      refine lv_icmp_ge (tgt := 66) X.1 X.2.1 dX9_isSpared_18 (by decide) (fun c4 => ?_) (fun c4 => ?_)
      · have hf := ite_t hf c4
        refine lv_aload_n X.1 X.2.1 dX9_isSpared_66 rfl (lv_at hl 0 rfl) ?_
        refine z_get X hK hP hiX9 0 rfl rfl 33 (by decide) (bw_in W7_10) rfl dX9_isSpared_67 ?_
        refine lv_iconst (v := 0) X.1 X.2.1 dX9_isSpared_70 (by decide) ?_
        refine lv_iload_n X.1 X.2.1 dX9_isSpared_71 rfl (lv_at hl 3 rfl) ?_
        obtain ⟨hi5, hf⟩ := chk_e hf
        obtain ⟨s6, es6, hf⟩ := stp_e hf
        refine z_iast (ws' := wbX9 K aM s6) X hK hP hD hS 19 rfl hi5 dX9_isSpared_72 (by rw [es6]; rfl) (fun H locs hP hD hS => ?_)
        refine lv_aload_n X.1 X.2.1 dX9_isSpared_73 rfl (lv_at hl 0 rfl) ?_
        refine z_get X hK hP hiX9 0 rfl rfl 33 (by decide) (bw_in W7_10) rfl dX9_isSpared_74 ?_
        refine lv_iconst (v := 1) X.1 X.2.1 dX9_isSpared_77 (by decide) ?_
        refine lv_iload X.1 X.2.1 dX9_isSpared_78 (lv_at hl 4 rfl) ?_
        obtain ⟨hi7, hf⟩ := chk_e hf
        obtain ⟨s8, es8, hf⟩ := stp_e hf
        refine z_iast (ws' := wbX9 K aM s8) X hK hP hD hS 19 rfl hi7 dX9_isSpared_80 (by rw [es8]; rfl) (fun H locs hP hD hS => ?_)
        refine lv_aload_n X.1 X.2.1 dX9_isSpared_81 rfl (lv_at hl 0 rfl) ?_
        obtain ⟨s9, hc10, hf⟩ := bd1_e hf
        refine z_V (n := 0) (As := []) (rest := []) (ci := 9) (q0 := 0) X hK hN (kX9_runs l D K aM s8 _ s9 hc10) (bw_V W20_9 W20_10 W20_11 W1_5 W20_12) rfl ⟨rfl, rfl⟩ (by decide +kernel) rfl ⟨Nat.le_of_ble_eq_true rfl, Nat.le_of_ble_eq_true rfl⟩ hP hD rfl rfl (zj_same hD hS hA) hS hl.1 rfl (Nat.le_of_ble_eq_true rfl) dX9_isSpared_82 ⟨Nat.zero_le _, Nat.zero_le _⟩ rfl (fun H locs hP hD hS => ?_)
        refine lv_aload_n X.1 X.2.1 dX9_isSpared_85 rfl (lv_at hl 0 rfl) ?_
        refine z_get X hK hP hiX9 0 rfl rfl 32 (by decide) (bw_in W7_9) rfl dX9_isSpared_86 ?_
        refine lv_iload_n X.1 X.2.1 dX9_isSpared_89 rfl (lv_at hl 1 rfl) ?_
        obtain ⟨hi12, hf⟩ := chk_e hf
        obtain ⟨v11, ev11, hf⟩ := stp_e hf
        refine z_iald X hK hP 18 rfl hi12 ev11 dX9_isSpared_90 ?_
        refine lv_iload_n X.1 X.2.1 dX9_isSpared_91 rfl (lv_at hl 2 rfl) ?_
        obtain ⟨r13, hc14, hf⟩ := bd1_e hf
        refine z_S (n := 2) (As := [.int v11, .int n12_1]) (rest := []) X hK hN (kX9_isIn l D K _ v11 n12_1 r13 hc14) (bw_S W21_8 W21_9 W1_5 W21_10) rfl ⟨rfl, rfl⟩ (by decide +kernel) rfl ⟨Nat.le_of_ble_eq_true rfl, Nat.le_of_ble_eq_true rfl⟩ (fun _ _ h => by simp at h) ⟨fun _ _ _ _ h => by simp at h, fun _ _ h => by simp at h⟩ (zj_none hP hD hS hA) hS hl.1 rfl (Nat.le_of_ble_eq_true rfl) dX9_isSpared_92 ⟨Nat.zero_le _, Nat.zero_le _⟩ rfl (fun H locs hP hD hS => ?_)
        refine lv_if_ne (tgt := 102) X.1 X.2.1 dX9_isSpared_95 (by decide) (fun c15 => ?_) (fun c15 => ?_)
        · have hf := ite_f hf c15
          refine lv_iconst (v := 0) X.1 X.2.1 dX9_isSpared_102 (by decide) ?_
          obtain ⟨rfl, rfl⟩ := z_inj2 hf
          exact z_zret X hr hlk (by decide) hP hD hS dX9_isSpared_103
        · have hf := ite_t hf c15
          refine lv_iconst (v := 1) X.1 X.2.1 dX9_isSpared_98 (by decide) ?_
          refine lv_goto (tgt := 103) X.1 X.2.1 dX9_isSpared_99 (by decide) ?_
          obtain ⟨rfl, rfl⟩ := z_inj2 hf
          exact z_zret X hr hlk (by decide) hP hD hS dX9_isSpared_103
      · have hf := ite_f hf c4
        refine lv_iload X.1 X.2.1 dX9_isSpared_21 (lv_at hl 5 rfl) ?_
        refine lv_iload_n X.1 X.2.1 dX9_isSpared_23 rfl (lv_at hl 3 rfl) ?_
        refine lv_icmp_eq (tgt := 60) X.1 X.2.1 dX9_isSpared_24 (by decide) (fun c16 => ?_) (fun c16 => ?_)
        · have hf := ite_t hf c16
          obtain ⟨w17, ew17, hf⟩ := stp_e hf
          refine lv_iinc (v := w17) (lv' := [(5, .int w17), (0, .ref (aM 0)), (1, .int n12_0), (2, .int n12_1), (3, .int n12_2), (4, .int n12_3)]) X.1 X.2.1 dX9_isSpared_60 hl (k := 5) rfl (by rw [ew17]; rfl) (by decide) rfl (fun ls hl => ?_)
          refine lv_goto (tgt := 12) X.1 X.2.1 dX9_isSpared_63 (by decide) ?_
          exact ih _ _ _ _ _ _ hf _ _ hP hD hS _ (lv_sub hl [1, 2, 3, 4, 5, 0] rfl)
        · have hf := ite_f hf c16
          refine lv_iload X.1 X.2.1 dX9_isSpared_27 (lv_at hl 5 rfl) ?_
          refine lv_iload X.1 X.2.1 dX9_isSpared_29 (lv_at hl 4 rfl) ?_
          refine lv_icmp_eq (tgt := 60) X.1 X.2.1 dX9_isSpared_31 (by decide) (fun c18 => ?_) (fun c18 => ?_)
          · have hf := ite_t hf c18
            obtain ⟨w19, ew19, hf⟩ := stp_e hf
            refine lv_iinc (v := w19) (lv' := [(5, .int w19), (0, .ref (aM 0)), (1, .int n12_0), (2, .int n12_1), (3, .int n12_2), (4, .int n12_3)]) X.1 X.2.1 dX9_isSpared_60 hl (k := 5) rfl (by rw [ew19]; rfl) (by decide) rfl (fun ls hl => ?_)
            refine lv_goto (tgt := 12) X.1 X.2.1 dX9_isSpared_63 (by decide) ?_
            exact ih _ _ _ _ _ _ hf _ _ hP hD hS _ (lv_sub hl [1, 2, 3, 4, 5, 0] rfl)
          · have hf := ite_f hf c18
            refine lv_aload_n X.1 X.2.1 dX9_isSpared_34 rfl (lv_at hl 0 rfl) ?_
            refine z_get X hK hP hiX9 0 rfl rfl 14 (by decide) (bw_in W7_0) rfl dX9_isSpared_35 ?_
            refine lv_aload_n X.1 X.2.1 dX9_isSpared_38 rfl (lv_at hl 0 rfl) ?_
            refine z_get X hK hP hiX9 0 rfl rfl 13 (by decide) (bw_in W20_7) rfl dX9_isSpared_39 ?_
            refine lv_aload_n X.1 X.2.1 dX9_isSpared_42 rfl (lv_at hl 0 rfl) ?_
            refine z_get X hK hP hiX9 0 rfl rfl 10 (by decide) (bw_in W6_23) rfl dX9_isSpared_43 ?_
            refine lv_iload X.1 X.2.1 dX9_isSpared_46 (lv_at hl 5 rfl) ?_
            obtain ⟨hi21, hf⟩ := chk_e hf
            obtain ⟨v20, ev20, hf⟩ := stp_e hf
            refine z_iald X hK hP 8 rfl hi21 ev20 dX9_isSpared_48 ?_
            obtain ⟨hi22, hf⟩ := chk_e hf
            obtain ⟨s23, es23, hf⟩ := stp_e hf
            refine z_iast (ws' := wbX9 K aM s23) X hK hP hD hS 9 rfl hi22 dX9_isSpared_49 (by rw [es23]; rfl) (fun H locs hP hD hS => ?_)
            refine lv_aload_n X.1 X.2.1 dX9_isSpared_50 rfl (lv_at hl 0 rfl) ?_
            refine lv_dup X.1 X.2.1 dX9_isSpared_51 rfl ?_
            refine z_get X hK hP hiX9 0 rfl rfl 13 (by decide) (bw_in W20_7) rfl dX9_isSpared_52 ?_
            refine lv_iconst (v := 1) X.1 X.2.1 dX9_isSpared_55 (by decide) ?_
            refine lv_iadd X.1 X.2.1 dX9_isSpared_56 ?_
            obtain ⟨s24, es24, hf⟩ := stp_e hf
            refine z_put (ws' := wbX9 K aM s24) X hK hP hD hS hiX9 tyX9_ok nmX9 0 rfl rfl 13 (by decide) (bw_in W20_7) rfl rfl rfl (Nat.le_of_ble_eq_true rfl) dX9_isSpared_57 (by rw [es24]; rfl) (fun H locs hP hD hS => ?_)
            obtain ⟨w25, ew25, hf⟩ := stp_e hf
            refine lv_iinc (v := w25) (lv' := [(5, .int w25), (0, .ref (aM 0)), (1, .int n12_0), (2, .int n12_1), (3, .int n12_2), (4, .int n12_3)]) X.1 X.2.1 dX9_isSpared_60 hl (k := 5) rfl (by rw [ew25]; rfl) (by decide) rfl (fun ls hl => ?_)
            refine lv_goto (tgt := 12) X.1 X.2.1 dX9_isSpared_63 (by decide) ?_
            exact ih _ _ _ _ _ _ hf _ _ hP hD hS _ (lv_sub hl [1, 2, 3, 4, 5, 0] rfl)
  rw [fX9_isSpared] at hf
  refine lv_aload_n X.1 X.2.1 dX9_isSpared_0 rfl (lv_at hl 0 rfl) ?_
  obtain ⟨s1, hc2, hf⟩ := bd1_e hf
  refine z_V (n := 0) (As := []) (rest := []) (ci := 9) (q0 := 0) X hK hN (kX9_asTold l D K aM s0 _ s1 hc2) (bw_V W20_3 W20_4 W20_5 W1_5 W20_6) rfl ⟨rfl, rfl⟩ (by decide +kernel) rfl ⟨Nat.le_of_ble_eq_true rfl, Nat.le_of_ble_eq_true rfl⟩ hP hD rfl rfl (zj_same hD hS hA) hS hl.1 rfl (Nat.le_of_ble_eq_true rfl) dX9_isSpared_1 ⟨Nat.zero_le _, Nat.zero_le _⟩ rfl (fun H locs hP hD hS => ?_)
  refine lv_aload_n X.1 X.2.1 dX9_isSpared_4 rfl (lv_at hl 0 rfl) ?_
  refine lv_iconst (v := 0) X.1 X.2.1 dX9_isSpared_5 (by decide) ?_
  obtain ⟨s3, es3, hf⟩ := stp_e hf
  refine z_put (ws' := wbX9 K aM s3) X hK hP hD hS hiX9 tyX9_ok nmX9 0 rfl rfl 13 (by decide) (bw_in W20_7) rfl rfl rfl (Nat.le_of_ble_eq_true rfl) dX9_isSpared_6 (by rw [es3]; rfl) (fun H locs hP hD hS => ?_)
  refine lv_iconst (v := 0) X.1 X.2.1 dX9_isSpared_9 (by decide) ?_
  refine lv_istore (lv' := [(5, .int 0), (0, .ref (aM 0)), (1, .int x1), (2, .int x2), (3, .int x3), (4, .int x4)]) X.1 X.2.1 dX9_isSpared_10 hl (by decide) rfl (fun ls hl => ?_)
  exact L12_0  _ _ _ _ _ _ _ hf _ _ hP hD hS _ (lv_sub hl [1, 2, 3, 4, 5, 0] rfl)
abbrev rmX9_leaveBy : Room := { frames := 8, cells := 0, slots := 0, locals := 188 }
set_option maxHeartbeats 4000000 in
set_option maxRecDepth 100000 in
theorem kX9_leaveBy (l : Launch) (D : va_G) (K : Nat → ClassId) (aM : Nat → Nat) (s0 : St) (sz : Nat) (x1 : Int32) (x2 : Int32) (q_ : Int32) (s_ : St) (hf : fX9_leaveBy s0 x1 x2 = some (q_, s_)) : Met l yX9_leaveBy (bw (Cond.code yX9_leaveBy cX9_leaveBy 5 (some .int))) rmX9_leaveBy (va_Pc [.ref (aM 0), .int x1, .int x2] (zB D K sz (wbX9 K aM s0))) (zQ (some (.int q_)) D (va_A (wbX9 K aM s0) sz) (wbX9 K aM s_)) 0 0 (va_A (wbX9 K aM s0) sz) := by
  refine z_of (cc := cX9_leaveBy) (maxL := 5) (ret := (some .int)) (own := RX9) (lv := [(0, .ref (aM 0)), (1, .int x1), (2, .int x2)]) (by decide) rfl rfl (Nat.le_of_ble_eq_true rfl) rfl ?_
  intro p e s m below meth c X hr hlk hK hN hsz hP hD hA hS hin ls hl
  generalize va_A (wbX9 K aM s0) sz = A at hD hA hS hN ⊢
  have hiX9 : ∀ w ∈ u_ws RX9 TX9 44, w ∈ (bw (Cond.code yX9_leaveBy cX9_leaveBy 5 (some .int))) := fun w h => bw_in (inlX9 w h)
  have L57_2 : ∀ (rec44 : Int32 → Int32 → Int32 → St → Option (Int32 × St)) (hrec44 : ∀ (n44_0 : Int32) (n44_1 : Int32) (n44_2 : Int32) (q44_M : St), rec44 n44_0 n44_1 n44_2 q44_M = some ((q_, s_)) → ∀ (H : Heap) (locs : List Loc), va_P D vwCl (wbX9 K aM q44_M) H → va_D A (wbX9 K aM q44_M) → va_S A s.heap H locs → ∀ (ls : Array Slot), lv_has ls 5 [(0, .ref (aM 0)), (1, .int n44_0), (2, .int n44_1), (3, .int n44_2)] → W p l e rmX9_leaveBy s m ([.ref (aM 0), .int x1, .int x2] : List Value).toArray below meth c H locs 0 0 (MQ below (zQ (some (.int q_)) D A (wbX9 K aM s_)) ([.ref (aM 0), .int x1, .int x2] : List Value).toArray s 0 0 A) (F0 m 44 ls [])), ∀ (n : Nat), ∀ (n57_0 : Int32) (n57_1 : Int32) (n57_2 : Int32) (n57_3 : Int32) (q57_M : St), fX9_leaveBy_57 rec44 n n57_0 n57_1 n57_2 n57_3 q57_M = some ((q_, s_)) → ∀ (H : Heap) (locs : List Loc), va_P D vwCl (wbX9 K aM q57_M) H → va_D A (wbX9 K aM q57_M) → va_S A s.heap H locs → ∀ (ls : Array Slot), lv_has ls 5 [(0, .ref (aM 0)), (1, .int n57_0), (2, .int n57_1), (3, .int n57_2), (4, .int n57_3)] → W p l e rmX9_leaveBy s m ([.ref (aM 0), .int x1, .int x2] : List Value).toArray below meth c H locs 0 0 (MQ below (zQ (some (.int q_)) D A (wbX9 K aM s_)) ([.ref (aM 0), .int x1, .int x2] : List Value).toArray s 0 0 A) (F0 m 57 ls []) := by
    intro rec44 hrec44 n
    induction n with
    | zero =>
      intro n57_0 n57_1 n57_2 n57_3 q57_M hf
      rw [fX9_leaveBy_57] at hf
      cases hf
    | succ n ih =>
      intro n57_0 n57_1 n57_2 n57_3 q57_M hf H locs hP hD hS ls hl
      rw [fX9_leaveBy_57] at hf
      refine lv_iload X.1 X.2.1 dX9_leaveBy_57 (lv_at hl 4 rfl) ?_
      refine lv_aload_n X.1 X.2.1 dX9_leaveBy_59 rfl (lv_at hl 0 rfl) ?_
      refine z_get X hK hP hiX9 0 rfl rfl 9 (by decide) (bw_in W11_6) rfl dX9_leaveBy_60 ?_
      refine lv_icmp_ge (tgt := 86) X.1 X.2.1 dX9_leaveBy_63 (by decide) (fun c8 => ?_) (fun c8 => ?_)
      · have hf := ite_t hf c8
        obtain ⟨w9, ew9, hf⟩ := stp_e hf
        refine lv_iinc (v := w9) (lv' := [(3, .int w9), (0, .ref (aM 0)), (1, .int n57_0), (2, .int n57_1), (4, .int n57_3)]) X.1 X.2.1 dX9_leaveBy_86 hl (k := 3) rfl (by rw [ew9]; rfl) (by decide) rfl (fun ls hl => ?_)
        refine lv_goto (tgt := 44) X.1 X.2.1 dX9_leaveBy_89 (by decide) ?_
        exact hrec44 _ _ _ _ hf _ _ hP hD hS _ (lv_sub hl [1, 2, 3, 0] rfl)
      · have hf := ite_f hf c8
        refine lv_aload_n X.1 X.2.1 dX9_leaveBy_66 rfl (lv_at hl 0 rfl) ?_
        refine lv_iload_n X.1 X.2.1 dX9_leaveBy_67 rfl (lv_at hl 1 rfl) ?_
        refine lv_iload_n X.1 X.2.1 dX9_leaveBy_68 rfl (lv_at hl 2 rfl) ?_
        refine lv_iload_n X.1 X.2.1 dX9_leaveBy_69 rfl (lv_at hl 3 rfl) ?_
        refine lv_iload X.1 X.2.1 dX9_leaveBy_70 (lv_at hl 4 rfl) ?_
        obtain ⟨r10, s11, hc12, hf⟩ := bd2_e hf
        refine z_V (n := 4) (As := [.int n57_0, .int n57_1, .int n57_2, .int n57_3]) (rest := []) (ci := 9) (q0 := 0) X hK hN (kX9_isSpared l D K aM q57_M _ n57_0 n57_1 n57_2 n57_3 r10 s11 hc12) (bw_V W30_0 W30_1 W30_2 W1_5 W30_3) rfl ⟨rfl, rfl⟩ (by decide +kernel) rfl ⟨Nat.le_of_ble_eq_true rfl, Nat.le_of_ble_eq_true rfl⟩ hP hD rfl rfl (zj_same hD hS hA) hS hl.1 rfl (Nat.le_of_ble_eq_true rfl) dX9_leaveBy_72 ⟨Nat.zero_le _, Nat.zero_le _⟩ rfl (fun H locs hP hD hS => ?_)
        refine lv_if_eq (tgt := 80) X.1 X.2.1 dX9_leaveBy_75 (by decide) (fun c13 => ?_) (fun c13 => ?_)
        · have hf := ite_t hf c13
          obtain ⟨w14, ew14, hf⟩ := stp_e hf
          refine lv_iinc (v := w14) (lv' := [(4, .int w14), (0, .ref (aM 0)), (1, .int n57_0), (2, .int n57_1), (3, .int n57_2)]) X.1 X.2.1 dX9_leaveBy_80 hl (k := 4) rfl (by rw [ew14]; rfl) (by decide) rfl (fun ls hl => ?_)
          refine lv_goto (tgt := 57) X.1 X.2.1 dX9_leaveBy_83 (by decide) ?_
          exact ih _ _ _ _ _ hf _ _ hP hD hS _ (lv_sub hl [1, 2, 3, 4, 0] rfl)
        · have hf := ite_f hf c13
          refine lv_iconst (v := 2) X.1 X.2.1 dX9_leaveBy_78 (by decide) ?_
          obtain ⟨rfl, rfl⟩ := z_inj2 hf
          exact z_iret X hr hlk hP hD hS dX9_leaveBy_79
  have L44_1 : ∀ (n : Nat), ∀ (n44_0 : Int32) (n44_1 : Int32) (n44_2 : Int32) (q44_M : St), fX9_leaveBy_44 n n44_0 n44_1 n44_2 q44_M = some ((q_, s_)) → ∀ (H : Heap) (locs : List Loc), va_P D vwCl (wbX9 K aM q44_M) H → va_D A (wbX9 K aM q44_M) → va_S A s.heap H locs → ∀ (ls : Array Slot), lv_has ls 5 [(0, .ref (aM 0)), (1, .int n44_0), (2, .int n44_1), (3, .int n44_2)] → W p l e rmX9_leaveBy s m ([.ref (aM 0), .int x1, .int x2] : List Value).toArray below meth c H locs 0 0 (MQ below (zQ (some (.int q_)) D A (wbX9 K aM s_)) ([.ref (aM 0), .int x1, .int x2] : List Value).toArray s 0 0 A) (F0 m 44 ls []) := by
    intro n
    induction n with
    | zero =>
      intro n44_0 n44_1 n44_2 q44_M hf
      rw [fX9_leaveBy_44] at hf
      cases hf
    | succ n ih =>
      intro n44_0 n44_1 n44_2 q44_M hf H locs hP hD hS ls hl
      rw [fX9_leaveBy_44] at hf
      refine lv_iload_n X.1 X.2.1 dX9_leaveBy_44 rfl (lv_at hl 3 rfl) ?_
      refine lv_aload_n X.1 X.2.1 dX9_leaveBy_45 rfl (lv_at hl 0 rfl) ?_
      refine z_get X hK hP hiX9 0 rfl rfl 9 (by decide) (bw_in W11_6) rfl dX9_leaveBy_46 ?_
      refine lv_icmp_ge (tgt := 92) X.1 X.2.1 dX9_leaveBy_49 (by decide) (fun c6 => ?_) (fun c6 => ?_)
      · have hf := ite_t hf c6
        refine lv_iconst (v := -1) X.1 X.2.1 dX9_leaveBy_92 (by decide) ?_
        obtain ⟨rfl, rfl⟩ := z_inj2 hf
        exact z_iret X hr hlk hP hD hS dX9_leaveBy_93
      · have hf := ite_f hf c6
        refine lv_iload_n X.1 X.2.1 dX9_leaveBy_52 rfl (lv_at hl 3 rfl) ?_
        refine lv_iconst (v := 1) X.1 X.2.1 dX9_leaveBy_53 (by decide) ?_
        refine lv_iadd X.1 X.2.1 dX9_leaveBy_54 ?_
        obtain ⟨w7, ew7, hf⟩ := stp_e hf
        refine z_top ew7 ?_
        refine lv_istore (lv' := [(4, .int w7), (0, .ref (aM 0)), (1, .int n44_0), (2, .int n44_1), (3, .int n44_2)]) X.1 X.2.1 dX9_leaveBy_55 hl (by decide) rfl (fun ls hl => ?_)
        exact L57_2 _ ih _ _ _ _ _ _ hf _ _ hP hD hS _ (lv_sub hl [1, 2, 3, 4, 0] rfl)
  have L15_0 : ∀ (n : Nat), ∀ (n15_0 : Int32) (n15_1 : Int32) (n15_2 : Int32) (q15_M : St), fX9_leaveBy_15 n n15_0 n15_1 n15_2 q15_M = some ((q_, s_)) → ∀ (H : Heap) (locs : List Loc), va_P D vwCl (wbX9 K aM q15_M) H → va_D A (wbX9 K aM q15_M) → va_S A s.heap H locs → ∀ (ls : Array Slot), lv_has ls 5 [(0, .ref (aM 0)), (1, .int n15_0), (2, .int n15_1), (3, .int n15_2)] → W p l e rmX9_leaveBy s m ([.ref (aM 0), .int x1, .int x2] : List Value).toArray below meth c H locs 0 0 (MQ below (zQ (some (.int q_)) D A (wbX9 K aM s_)) ([.ref (aM 0), .int x1, .int x2] : List Value).toArray s 0 0 A) (F0 m 15 ls []) := by
    intro n
    induction n with
    | zero =>
      intro n15_0 n15_1 n15_2 q15_M hf
      rw [fX9_leaveBy_15] at hf
      cases hf
    | succ n ih =>
      intro n15_0 n15_1 n15_2 q15_M hf H locs hP hD hS ls hl
      rw [fX9_leaveBy_15] at hf
      refine lv_iload_n X.1 X.2.1 dX9_leaveBy_15 rfl (lv_at hl 3 rfl) ?_
      refine lv_aload_n X.1 X.2.1 dX9_leaveBy_16 rfl (lv_at hl 0 rfl) ?_
      refine z_get X hK hP hiX9 0 rfl rfl 9 (by decide) (bw_in W11_6) rfl dX9_leaveBy_17 ?_
      refine lv_icmp_ge (tgt := 42) X.1 X.2.1 dX9_leaveBy_20 (by decide) (fun c5 => ?_) (fun c5 => ?_)
      · have hf := ite_t hf c5
        refine lv_iconst (v := 0) X.1 X.2.1 dX9_leaveBy_42 (by decide) ?_
        refine lv_istore_n (lv' := [(3, .int 0), (0, .ref (aM 0)), (1, .int n15_0), (2, .int n15_1)]) X.1 X.2.1 dX9_leaveBy_43 rfl hl (by decide) rfl (fun ls hl => ?_)
        exact L44_1  _ _ _ _ _ hf _ _ hP hD hS _ (lv_sub hl [1, 2, 3, 0] rfl)
      · have hf := ite_f hf c5
        refine lv_aload_n X.1 X.2.1 dX9_leaveBy_23 rfl (lv_at hl 0 rfl) ?_
        refine lv_iload_n X.1 X.2.1 dX9_leaveBy_24 rfl (lv_at hl 1 rfl) ?_
        refine lv_iload_n X.1 X.2.1 dX9_leaveBy_25 rfl (lv_at hl 2 rfl) ?_
        refine lv_iload_n X.1 X.2.1 dX9_leaveBy_26 rfl (lv_at hl 3 rfl) ?_
        refine lv_iconst (v := -1) X.1 X.2.1 dX9_leaveBy_27 (by decide) ?_
        obtain ⟨r15, s16, hc17, hf⟩ := bd2_e hf
        refine z_V (n := 4) (As := [.int n15_0, .int n15_1, .int n15_2, .int ((-1))]) (rest := []) (ci := 9) (q0 := 0) X hK hN (kX9_isSpared l D K aM q15_M _ n15_0 n15_1 n15_2 ((-1)) r15 s16 hc17) (bw_V W30_0 W30_1 W30_2 W1_5 W30_3) rfl ⟨rfl, rfl⟩ (by decide +kernel) rfl ⟨Nat.le_of_ble_eq_true rfl, Nat.le_of_ble_eq_true rfl⟩ hP hD rfl rfl (zj_same hD hS hA) hS hl.1 rfl (Nat.le_of_ble_eq_true rfl) dX9_leaveBy_28 ⟨Nat.zero_le _, Nat.zero_le _⟩ rfl (fun H locs hP hD hS => ?_)
        refine lv_if_eq (tgt := 36) X.1 X.2.1 dX9_leaveBy_31 (by decide) (fun c18 => ?_) (fun c18 => ?_)
        · have hf := ite_t hf c18
          obtain ⟨w19, ew19, hf⟩ := stp_e hf
          refine lv_iinc (v := w19) (lv' := [(3, .int w19), (0, .ref (aM 0)), (1, .int n15_0), (2, .int n15_1)]) X.1 X.2.1 dX9_leaveBy_36 hl (k := 3) rfl (by rw [ew19]; rfl) (by decide) rfl (fun ls hl => ?_)
          refine lv_goto (tgt := 15) X.1 X.2.1 dX9_leaveBy_39 (by decide) ?_
          exact ih _ _ _ _ hf _ _ hP hD hS _ (lv_sub hl [1, 2, 3, 0] rfl)
        · have hf := ite_f hf c18
          refine lv_iconst (v := 1) X.1 X.2.1 dX9_leaveBy_34 (by decide) ?_
          obtain ⟨rfl, rfl⟩ := z_inj2 hf
          exact z_iret X hr hlk hP hD hS dX9_leaveBy_35
  rw [fX9_leaveBy] at hf
  refine lv_aload_n X.1 X.2.1 dX9_leaveBy_0 rfl (lv_at hl 0 rfl) ?_
  refine lv_iload_n X.1 X.2.1 dX9_leaveBy_1 rfl (lv_at hl 1 rfl) ?_
  refine lv_iload_n X.1 X.2.1 dX9_leaveBy_2 rfl (lv_at hl 2 rfl) ?_
  refine lv_iconst (v := -1) X.1 X.2.1 dX9_leaveBy_3 (by decide) ?_
  refine lv_iconst (v := -1) X.1 X.2.1 dX9_leaveBy_4 (by decide) ?_
  obtain ⟨r1, s2, hc3, hf⟩ := bd2_e hf
  refine z_V (n := 4) (As := [.int x1, .int x2, .int ((-1)), .int ((-1))]) (rest := []) (ci := 9) (q0 := 0) X hK hN (kX9_isSpared l D K aM s0 _ x1 x2 ((-1)) ((-1)) r1 s2 hc3) (bw_V W30_0 W30_1 W30_2 W1_5 W30_3) rfl ⟨rfl, rfl⟩ (by decide +kernel) rfl ⟨Nat.le_of_ble_eq_true rfl, Nat.le_of_ble_eq_true rfl⟩ hP hD rfl rfl (zj_same hD hS hA) hS hl.1 rfl (Nat.le_of_ble_eq_true rfl) dX9_leaveBy_5 ⟨Nat.zero_le _, Nat.zero_le _⟩ rfl (fun H locs hP hD hS => ?_)
  refine lv_if_eq (tgt := 13) X.1 X.2.1 dX9_leaveBy_8 (by decide) (fun c4 => ?_) (fun c4 => ?_)
  · have hf := ite_t hf c4
    refine lv_iconst (v := 0) X.1 X.2.1 dX9_leaveBy_13 (by decide) ?_
    refine lv_istore_n (lv' := [(3, .int 0), (0, .ref (aM 0)), (1, .int x1), (2, .int x2)]) X.1 X.2.1 dX9_leaveBy_14 rfl hl (by decide) rfl (fun ls hl => ?_)
    exact L15_0  _ _ _ _ _ hf _ _ hP hD hS _ (lv_sub hl [1, 2, 3, 0] rfl)
  · have hf := ite_f hf c4
    refine lv_iconst (v := 0) X.1 X.2.1 dX9_leaveBy_11 (by decide) ?_
    obtain ⟨rfl, rfl⟩ := z_inj2 hf
    exact z_iret X hr hlk hP hD hS dX9_leaveBy_12
abbrev rmX9_leave : Room := { frames := 9, cells := 0, slots := 0, locals := 212 }
set_option maxHeartbeats 4000000 in
set_option maxRecDepth 100000 in
theorem kX9_leave (l : Launch) (D : va_G) (K : Nat → ClassId) (aM : Nat → Nat) (s0 : St) (sz : Nat) (x1 : Int32) (x2 : Int32) (x3 : Int32) (q_ : Int32) (s_ : St) (hf : fX9_leave s0 x1 x2 x3 = some (q_, s_)) : Met l yX9_leave (bw (Cond.code yX9_leave cX9_leave 4 (some .int))) rmX9_leave (va_Pc [.ref (aM 0), .int x1, .int x2, .int x3] (zB D K sz (wbX9 K aM s0))) (zQ (some (.int q_)) D (va_A (wbX9 K aM s0) sz) (wbX9 K aM s_)) 0 0 (va_A (wbX9 K aM s0) sz) := by
  refine z_of (cc := cX9_leave) (maxL := 4) (ret := (some .int)) (own := RX9) (lv := [(0, .ref (aM 0)), (1, .int x1), (2, .int x2), (3, .int x3)]) (by decide) rfl rfl (Nat.le_of_ble_eq_true rfl) rfl ?_
  intro p e s m below meth c X hr hlk hK hN hsz hP hD hA hS hin ls hl
  generalize va_A (wbX9 K aM s0) sz = A at hD hA hS hN ⊢
  rw [fX9_leave] at hf
  refine lv_aload_n X.1 X.2.1 dX9_leave_0 rfl (lv_at hl 0 rfl) ?_
  refine lv_iload_n X.1 X.2.1 dX9_leave_1 rfl (lv_at hl 1 rfl) ?_
  obtain ⟨r1, s2, hc3, hf⟩ := bd2_e hf
  refine z_V (n := 1) (As := [.int x1]) (rest := []) (ci := 9) (q0 := 0) X hK hN (kX9_isRider l D K aM s0 _ x1 r1 s2 hc3) (bw_V W16_9 W16_10 W16_11 W1_5 W16_12) rfl ⟨rfl, rfl⟩ (by decide +kernel) rfl ⟨Nat.le_of_ble_eq_true rfl, Nat.le_of_ble_eq_true rfl⟩ hP hD rfl rfl (zj_same hD hS hA) hS hl.1 rfl (Nat.le_of_ble_eq_true rfl) dX9_leave_2 ⟨Nat.zero_le _, Nat.zero_le _⟩ rfl (fun H locs hP hD hS => ?_)
  refine lv_if_eq (tgt := 39) X.1 X.2.1 dX9_leave_5 (by decide) (fun c4 => ?_) (fun c4 => ?_)
  · have hf := ite_t hf c4
    refine lv_bipush (v := -2) X.1 X.2.1 dX9_leave_39 (by decide) ?_
    obtain ⟨rfl, rfl⟩ := z_inj2 hf
    exact z_iret X hr hlk hP hD hS dX9_leave_41
  · have hf := ite_f hf c4
    refine lv_aload_n X.1 X.2.1 dX9_leave_8 rfl (lv_at hl 0 rfl) ?_
    refine lv_iload_n X.1 X.2.1 dX9_leave_9 rfl (lv_at hl 2 rfl) ?_
    obtain ⟨r5, s6, hc7, hf⟩ := bd2_e hf
    refine z_V (n := 1) (As := [.int x2]) (rest := []) (ci := 9) (q0 := 0) X hK hN (kX9_isLeaver l D K aM s2 _ x2 r5 s6 hc7) (bw_V W17_12 W17_13 W17_14 W1_5 W17_15) rfl ⟨rfl, rfl⟩ (by decide +kernel) rfl ⟨Nat.le_of_ble_eq_true rfl, Nat.le_of_ble_eq_true rfl⟩ hP hD rfl rfl (zj_same hD hS hA) hS hl.1 rfl (Nat.le_of_ble_eq_true rfl) dX9_leave_10 ⟨Nat.zero_le _, Nat.zero_le _⟩ rfl (fun H locs hP hD hS => ?_)
    refine lv_if_eq (tgt := 39) X.1 X.2.1 dX9_leave_13 (by decide) (fun c8 => ?_) (fun c8 => ?_)
    · have hf := ite_t hf c8
      refine lv_bipush (v := -2) X.1 X.2.1 dX9_leave_39 (by decide) ?_
      obtain ⟨rfl, rfl⟩ := z_inj2 hf
      exact z_iret X hr hlk hP hD hS dX9_leave_41
    · have hf := ite_f hf c8
      refine lv_iload_n X.1 X.2.1 dX9_leave_16 rfl (lv_at hl 3 rfl) ?_
      refine lv_iconst (v := -1) X.1 X.2.1 dX9_leave_17 (by decide) ?_
      refine lv_iconst (v := 1) X.1 X.2.1 dX9_leave_18 (by decide) ?_
      obtain ⟨r9, hc10, hf⟩ := bd1_e hf
      refine z_S (n := 3) (As := [.int x3, .int ((-1)), .int 1]) (rest := []) X hK hN (kX9_in l D K _ x3 ((-1)) 1 r9 hc10) (bw_S W8_17 W8_18 W1_5 W8_19) rfl ⟨rfl, rfl⟩ (by decide +kernel) rfl ⟨Nat.le_of_ble_eq_true rfl, Nat.le_of_ble_eq_true rfl⟩ (fun _ _ h => by simp at h) ⟨fun _ _ _ _ h => by simp at h, fun _ _ h => by simp at h⟩ (zj_none hP hD hS hA) hS hl.1 rfl (Nat.le_of_ble_eq_true rfl) dX9_leave_19 ⟨Nat.zero_le _, Nat.zero_le _⟩ rfl (fun H locs hP hD hS => ?_)
      refine lv_if_eq (tgt := 39) X.1 X.2.1 dX9_leave_22 (by decide) (fun c11 => ?_) (fun c11 => ?_)
      · have hf := ite_t hf c11
        refine lv_bipush (v := -2) X.1 X.2.1 dX9_leave_39 (by decide) ?_
        obtain ⟨rfl, rfl⟩ := z_inj2 hf
        exact z_iret X hr hlk hP hD hS dX9_leave_41
      · have hf := ite_f hf c11
        refine lv_aload_n X.1 X.2.1 dX9_leave_25 rfl (lv_at hl 0 rfl) ?_
        refine lv_aload_n X.1 X.2.1 dX9_leave_26 rfl (lv_at hl 0 rfl) ?_
        refine lv_iload_n X.1 X.2.1 dX9_leave_27 rfl (lv_at hl 1 rfl) ?_
        refine lv_iload_n X.1 X.2.1 dX9_leave_28 rfl (lv_at hl 2 rfl) ?_
        obtain ⟨r12, s13, hc14, hf⟩ := bd2_e hf
        refine z_V (n := 2) (As := [.int x1, .int x2]) (rest := [.ref (aM 0)]) (ci := 9) (q0 := 0) X hK hN (kX9_leaveBy l D K aM s6 _ x1 x2 r12 s13 hc14) (bw_V W29_20 W29_21 W29_22 W1_5 W29_23) rfl ⟨rfl, rfl⟩ (by decide +kernel) rfl ⟨Nat.le_of_ble_eq_true rfl, Nat.le_of_ble_eq_true rfl⟩ hP hD rfl rfl (zj_same hD hS hA) hS hl.1 rfl (Nat.le_of_ble_eq_true rfl) dX9_leave_29 ⟨Nat.zero_le _, Nat.zero_le _⟩ rfl (fun H locs hP hD hS => ?_)
        refine lv_iload_n X.1 X.2.1 dX9_leave_32 rfl (lv_at hl 3 rfl) ?_
        obtain ⟨r15, hc16, hf⟩ := bd1_e hf
        refine z_V (n := 2) (As := [.int r12, .int x3]) (rest := []) (ci := 9) (q0 := 0) X hK hN (kX9_ofRow l D K aM s13 _ r12 x3 r15 hc16) (bw_V W28_18 W28_19 W28_20 W1_5 W28_21) rfl ⟨rfl, rfl⟩ (by decide +kernel) rfl ⟨Nat.le_of_ble_eq_true rfl, Nat.le_of_ble_eq_true rfl⟩ hP hD rfl rfl (zj_same hD hS hA) hS hl.1 rfl (Nat.le_of_ble_eq_true rfl) dX9_leave_33 ⟨Nat.zero_le _, Nat.zero_le _⟩ rfl (fun H locs hP hD hS => ?_)
        refine lv_goto (tgt := 41) X.1 X.2.1 dX9_leave_36 (by decide) ?_
        obtain ⟨rfl, rfl⟩ := z_inj2 hf
        exact z_iret X hr hlk hP hD hS dX9_leave_41
abbrev rmX9_no : Room := { frames := 0, cells := 0, slots := 0, locals := 0 }
set_option maxHeartbeats 4000000 in
set_option maxRecDepth 100000 in
theorem kX9_no (l : Launch) (D : va_G) (K : Nat → ClassId)   (sz : Nat) (x1 : Int32) (q_ : Int64) (hf : fX9_no x1 = some q_) : Met l yX9_no (bw (Cond.code yX9_no cX9_no 1 (some .long))) rmX9_no (va_Pc [.int x1] (zB D K sz (([] : va_W)))) (zQ (some (.long q_)) D (va_A (([] : va_W)) sz) (([] : va_W))) 0 0 (va_A (([] : va_W)) sz) := by
  refine z_of (cc := cX9_no) (maxL := 1) (ret := (some .long)) (own := RX9) (lv := [(0, .int x1)]) (by decide) rfl rfl (Nat.le_of_ble_eq_true rfl) rfl ?_
  intro p e s m below meth c X hr hlk hK hN hsz hP hD hA hS hin ls hl
  generalize va_A (([] : va_W)) sz = A at hD hA hS hN ⊢
  rw [fX9_no] at hf
  refine lv_ldc2 (v := -9223372036854775808) X.1 X.2.1 X.2.2.2.1 (X.2.2.2.2 _ (bw_in W37_18)) dX9_no_0 ?_
  refine lv_iload_n X.1 X.2.1 dX9_no_3 rfl (lv_at hl 0 rfl) ?_
  refine lv_i2l X.1 X.2.1 dX9_no_4 rfl ?_
  refine lv_lsub X.1 X.2.1 dX9_no_5 ?_
  obtain rfl := z_inj1 hf
  exact z_lret X hr hlk hP hD hS dX9_no_6
abbrev rmX9_lowest : Room := { frames := 0, cells := 0, slots := 0, locals := 0 }
set_option maxHeartbeats 4000000 in
set_option maxRecDepth 100000 in
theorem kX9_lowest (l : Launch) (D : va_G) (K : Nat → ClassId)   (sz : Nat) (x1 : Int64) (x2 : Int64) (x3 : Int32) (q_ : Int64) (hf : fX9_lowest x1 x2 x3 = some q_) : Met l yX9_lowest (bw (Cond.code yX9_lowest cX9_lowest 11 (some .long))) rmX9_lowest (va_Pc [.long x1, .long x2, .int x3] (zB D K sz (([] : va_W)))) (zQ (some (.long q_)) D (va_A (([] : va_W)) sz) (([] : va_W))) 0 0 (va_A (([] : va_W)) sz) := by
  refine z_of (cc := cX9_lowest) (maxL := 11) (ret := (some .long)) (own := RX9) (lv := [(0, .long x1), (2, .long x2), (4, .int x3)]) (by decide) rfl rfl (Nat.le_of_ble_eq_true rfl) rfl ?_
  intro p e s m below meth c X hr hlk hK hN hsz hP hD hA hS hin ls hl
  generalize va_A (([] : va_W)) sz = A at hD hA hS hN ⊢
  have L6_0 : ∀ (n : Nat), ∀ (n6_0 : Int64) (n6_1 : Int64) (n6_2 : Int32) (n6_3 : Int64) (n6_4 : Int64) , fX9_lowest_6 n n6_0 n6_1 n6_2 n6_3 n6_4 = some q_ → ∀ (H : Heap) (locs : List Loc), va_P D vwCl (([] : va_W)) H → va_D A (([] : va_W)) → va_S A s.heap H locs → ∀ (ls : Array Slot), lv_has ls 11 [(0, .long n6_0), (2, .long n6_1), (4, .int n6_2), (5, .long n6_3), (7, .long n6_4)] → W p l e rmX9_lowest s m ([.long x1, .long x2, .int x3] : List Value).toArray below meth c H locs 0 0 (MQ below (zQ (some (.long q_)) D A (([] : va_W))) ([.long x1, .long x2, .int x3] : List Value).toArray s 0 0 A) (F0 m 6 ls []) := by
    intro n
    induction n with
    | zero =>
      intro n6_0 n6_1 n6_2 n6_3 n6_4  hf
      rw [fX9_lowest_6] at hf
      cases hf
    | succ n ih =>
      intro n6_0 n6_1 n6_2 n6_3 n6_4  hf H locs hP hD hS ls hl
      rw [fX9_lowest_6] at hf
      refine lv_lload X.1 X.2.1 dX9_lowest_6 (lv_at hl 4 rfl) ?_
      refine lv_lconst (v := 0) X.1 X.2.1 dX9_lowest_8 rfl ?_
      refine W.lcmp X.1 X.2.1 dX9_lowest_9 ?_
      refine lv_if_eq (tgt := 31) X.1 X.2.1 dX9_lowest_10 (by decide) (fun c1 => ?_) (fun c1 => ?_)
      · have hf := ite_t hf c1
        refine lv_iload X.1 X.2.1 dX9_lowest_31 (lv_at hl 2 rfl) ?_
        refine lv_if_ne (tgt := 43) X.1 X.2.1 dX9_lowest_33 (by decide) (fun c2 => ?_) (fun c2 => ?_)
        · have hf := ite_f hf c2
          refine lv_lload_n X.1 X.2.1 dX9_lowest_43 rfl (lv_at hl 1 rfl) ?_
          refine lv_lload X.1 X.2.1 dX9_lowest_44 (lv_at hl 3 rfl) ?_
          obtain ⟨hz3, hf⟩ := asr_e hf
          refine lv_ldiv X.1 X.2.1 dX9_lowest_46 hz3 ?_
          obtain rfl := z_inj1 hf
          exact z_lret X hr hlk hP hD hS dX9_lowest_47
        · have hf := ite_t hf c2
          refine lv_lload_n X.1 X.2.1 dX9_lowest_36 rfl (lv_at hl 0 rfl) ?_
          refine lv_lload X.1 X.2.1 dX9_lowest_37 (lv_at hl 3 rfl) ?_
          obtain ⟨hz4, hf⟩ := asr_e hf
          refine lv_ldiv X.1 X.2.1 dX9_lowest_39 hz4 ?_
          refine lv_goto (tgt := 47) X.1 X.2.1 dX9_lowest_40 (by decide) ?_
          obtain rfl := z_inj1 hf
          exact z_lret X hr hlk hP hD hS dX9_lowest_47
      · have hf := ite_f hf c1
        refine lv_lload X.1 X.2.1 dX9_lowest_13 (lv_at hl 3 rfl) ?_
        refine lv_lload X.1 X.2.1 dX9_lowest_15 (lv_at hl 4 rfl) ?_
        obtain ⟨hz5, hf⟩ := asr_e hf
        refine lv_lrem X.1 X.2.1 dX9_lowest_17 hz5 ?_
        obtain ⟨w6, ew6, hf⟩ := stp_e hf
        refine z_topl ew6 ?_
        refine lv_lstore (lv' := [(9, .long w6), (0, .long n6_0), (2, .long n6_1), (4, .int n6_2), (5, .long n6_3), (7, .long n6_4)]) X.1 X.2.1 dX9_lowest_18 hl (by decide) rfl (fun ls hl => ?_)
        refine lv_lload X.1 X.2.1 dX9_lowest_20 (lv_at hl 5 rfl) ?_
        refine lv_lstore (lv' := [(5, .long n6_4), (9, .long w6), (0, .long n6_0), (2, .long n6_1), (4, .int n6_2), (7, .long n6_4)]) X.1 X.2.1 dX9_lowest_22 hl (by decide) rfl (fun ls hl => ?_)
        refine lv_lload X.1 X.2.1 dX9_lowest_24 (lv_at hl 1 rfl) ?_
        refine lv_lstore (lv' := [(7, .long w6), (5, .long n6_4), (9, .long w6), (0, .long n6_0), (2, .long n6_1), (4, .int n6_2)]) X.1 X.2.1 dX9_lowest_26 hl (by decide) rfl (fun ls hl => ?_)
        refine lv_goto (tgt := 6) X.1 X.2.1 dX9_lowest_28 (by decide) ?_
        exact ih _ _ _ _ _ hf _ _ hP hD hS _ (lv_sub hl [3, 4, 5, 1, 0] rfl)
  rw [fX9_lowest] at hf
  refine lv_lload_n X.1 X.2.1 dX9_lowest_0 rfl (lv_at hl 0 rfl) ?_
  refine lv_lstore (lv' := [(5, .long x1), (0, .long x1), (2, .long x2), (4, .int x3)]) X.1 X.2.1 dX9_lowest_1 hl (by decide) rfl (fun ls hl => ?_)
  refine lv_lload_n X.1 X.2.1 dX9_lowest_3 rfl (lv_at hl 2 rfl) ?_
  refine lv_lstore (lv' := [(7, .long x2), (5, .long x1), (0, .long x1), (2, .long x2), (4, .int x3)]) X.1 X.2.1 dX9_lowest_4 hl (by decide) rfl (fun ls hl => ?_)
  exact L6_0  _ _ _ _ _ _ hf _ _ hP hD hS _ (lv_sub hl [2, 3, 4, 1, 0] rfl)
abbrev rmX9_maybeOf : Room := { frames := 7, cells := 0, slots := 0, locals := 163 }
set_option maxHeartbeats 4000000 in
set_option maxRecDepth 100000 in
theorem kX9_maybeOf (l : Launch) (D : va_G) (K : Nat → ClassId) (aM : Nat → Nat) (s0 : St) (sz : Nat) (x1 : Int32) (x2 : Int32) (x3 : Int32) (x4 : Int32) (q_ : Int64) (s_ : St) (hf : fX9_maybeOf s0 x1 x2 x3 x4 = some (q_, s_)) : Met l yX9_maybeOf (bw (Cond.code yX9_maybeOf cX9_maybeOf 11 (some .long))) rmX9_maybeOf (va_Pc [.ref (aM 0), .int x1, .int x2, .int x3, .int x4] (zB D K sz (wbX9 K aM s0))) (zQ (some (.long q_)) D (va_A (wbX9 K aM s0) sz) (wbX9 K aM s_)) 0 0 (va_A (wbX9 K aM s0) sz) := by
  refine z_of (cc := cX9_maybeOf) (maxL := 11) (ret := (some .long)) (own := RX9) (lv := [(0, .ref (aM 0)), (1, .int x1), (2, .int x2), (3, .int x3), (4, .int x4)]) (by decide) rfl rfl (Nat.le_of_ble_eq_true rfl) rfl ?_
  intro p e s m below meth c X hr hlk hK hN hsz hP hD hA hS hin ls hl
  generalize va_A (wbX9 K aM s0) sz = A at hD hA hS hN ⊢
  have hiX9 : ∀ w ∈ u_ws RX9 TX9 44, w ∈ (bw (Cond.code yX9_maybeOf cX9_maybeOf 11 (some .long))) := fun w h => bw_in (inlX9 w h)
  have L27_1 : ∀ (rec10 : Int32 → Int32 → Int32 → Int32 → Int64 → Int32 → St → Option (Int64 × St)) (hrec10 : ∀ (n10_0 : Int32) (n10_1 : Int32) (n10_2 : Int32) (n10_3 : Int32) (n10_4 : Int64) (n10_5 : Int32) (q10_M : St), rec10 n10_0 n10_1 n10_2 n10_3 n10_4 n10_5 q10_M = some ((q_, s_)) → ∀ (H : Heap) (locs : List Loc), va_P D vwCl (wbX9 K aM q10_M) H → va_D A (wbX9 K aM q10_M) → va_S A s.heap H locs → ∀ (ls : Array Slot), lv_has ls 11 [(0, .ref (aM 0)), (1, .int n10_0), (2, .int n10_1), (3, .int n10_2), (4, .int n10_3), (5, .long n10_4), (7, .int n10_5)] → W p l e rmX9_maybeOf s m ([.ref (aM 0), .int x1, .int x2, .int x3, .int x4] : List Value).toArray below meth c H locs 0 0 (MQ below (zQ (some (.long q_)) D A (wbX9 K aM s_)) ([.ref (aM 0), .int x1, .int x2, .int x3, .int x4] : List Value).toArray s 0 0 A) (F0 m 10 ls [])), ∀ (n : Nat), ∀ (n27_0 : Int32) (n27_1 : Int32) (n27_2 : Int32) (n27_3 : Int32) (n27_4 : Int64) (n27_5 : Int32) (n27_6 : Int64) (n27_7 : Int32) (q27_M : St), fX9_maybeOf_27 rec10 n n27_0 n27_1 n27_2 n27_3 n27_4 n27_5 n27_6 n27_7 q27_M = some ((q_, s_)) → ∀ (H : Heap) (locs : List Loc), va_P D vwCl (wbX9 K aM q27_M) H → va_D A (wbX9 K aM q27_M) → va_S A s.heap H locs → ∀ (ls : Array Slot), lv_has ls 11 [(0, .ref (aM 0)), (1, .int n27_0), (2, .int n27_1), (3, .int n27_2), (4, .int n27_3), (5, .long n27_4), (7, .int n27_5), (8, .long n27_6), (10, .int n27_7)] → W p l e rmX9_maybeOf s m ([.ref (aM 0), .int x1, .int x2, .int x3, .int x4] : List Value).toArray below meth c H locs 0 0 (MQ below (zQ (some (.long q_)) D A (wbX9 K aM s_)) ([.ref (aM 0), .int x1, .int x2, .int x3, .int x4] : List Value).toArray s 0 0 A) (F0 m 27 ls []) := by
    intro rec10 hrec10 n
    induction n with
    | zero =>
      intro n27_0 n27_1 n27_2 n27_3 n27_4 n27_5 n27_6 n27_7 q27_M hf
      rw [fX9_maybeOf_27] at hf
      cases hf
    | succ n ih =>
      intro n27_0 n27_1 n27_2 n27_3 n27_4 n27_5 n27_6 n27_7 q27_M hf H locs hP hD hS ls hl
      rw [fX9_maybeOf_27] at hf
      refine lv_iload X.1 X.2.1 dX9_maybeOf_27 (lv_at hl 8 rfl) ?_
      refine lv_aload_n X.1 X.2.1 dX9_maybeOf_29 rfl (lv_at hl 0 rfl) ?_
      refine z_get X hK hP hiX9 0 rfl rfl 6 (by decide) (bw_in W10_13) rfl dX9_maybeOf_30 ?_
      refine lv_icmp_ge (tgt := 67) X.1 X.2.1 dX9_maybeOf_33 (by decide) (fun c6 => ?_) (fun c6 => ?_)
      · have hf := ite_t hf c6
        refine lv_aload_n X.1 X.2.1 dX9_maybeOf_67 rfl (lv_at hl 0 rfl) ?_
        refine lv_iload X.1 X.2.1 dX9_maybeOf_68 (lv_at hl 6 rfl) ?_
        obtain ⟨s7, es7, hf⟩ := stp_e hf
        refine z_put (ws' := wbX9 K aM s7) X hK hP hD hS hiX9 tyX9_ok nmX9 0 rfl rfl 15 (by decide) (bw_in W20_8) rfl rfl rfl (Nat.le_of_ble_eq_true rfl) dX9_maybeOf_70 (by rw [es7]; rfl) (fun H locs hP hD hS => ?_)
        refine lv_aload_n X.1 X.2.1 dX9_maybeOf_73 rfl (lv_at hl 0 rfl) ?_
        obtain ⟨s8, hc9, hf⟩ := bd1_e hf
        refine z_V (n := 0) (As := []) (rest := []) (ci := 9) (q0 := 0) X hK hN (kX9_runs l D K aM s7 _ s8 hc9) (bw_V W20_9 W20_10 W20_11 W1_5 W20_12) rfl ⟨rfl, rfl⟩ (by decide +kernel) rfl ⟨Nat.le_of_ble_eq_true rfl, Nat.le_of_ble_eq_true rfl⟩ hP hD rfl rfl (zj_same hD hS hA) hS hl.1 rfl (Nat.le_of_ble_eq_true rfl) dX9_maybeOf_74 ⟨Nat.zero_le _, Nat.zero_le _⟩ rfl (fun H locs hP hD hS => ?_)
        refine lv_lload X.1 X.2.1 dX9_maybeOf_77 (lv_at hl 5 rfl) ?_
        refine lv_aload_n X.1 X.2.1 dX9_maybeOf_79 rfl (lv_at hl 0 rfl) ?_
        refine lv_iload_n X.1 X.2.1 dX9_maybeOf_80 rfl (lv_at hl 3 rfl) ?_
        obtain ⟨r10, hc11, hf⟩ := bd1_e hf
        refine z_V (n := 1) (As := [.int n27_2]) (rest := [.long n27_4]) (ci := 9) (q0 := 0) X hK hN (kX9_arrivedNow l D K aM s8 _ n27_2 r10 hc11) (bw_V W25_9 W25_10 W25_11 W1_5 W25_12) rfl ⟨rfl, rfl⟩ (by decide +kernel) rfl ⟨Nat.le_of_ble_eq_true rfl, Nat.le_of_ble_eq_true rfl⟩ hP hD rfl rfl (zj_same hD hS hA) hS hl.1 rfl (Nat.le_of_ble_eq_true rfl) dX9_maybeOf_81 ⟨Nat.zero_le _, Nat.zero_le _⟩ rfl (fun H locs hP hD hS => ?_)
        refine lv_iload_n X.1 X.2.1 dX9_maybeOf_84 rfl (lv_at hl 2 rfl) ?_
        obtain ⟨r12, hc13, hf⟩ := bd1_e hf
        refine z_S (n := 2) (As := [.int r10, .int n27_1]) (rest := [.long n27_4]) X hK hN (kX9_isIn l D K _ r10 n27_1 r12 hc13) (bw_S W21_8 W21_9 W1_5 W21_10) rfl ⟨rfl, rfl⟩ (by decide +kernel) rfl ⟨Nat.le_of_ble_eq_true rfl, Nat.le_of_ble_eq_true rfl⟩ (fun _ _ h => by simp at h) ⟨fun _ _ _ _ h => by simp at h, fun _ _ h => by simp at h⟩ (zj_none hP hD hS hA) hS hl.1 rfl (Nat.le_of_ble_eq_true rfl) dX9_maybeOf_85 ⟨Nat.zero_le _, Nat.zero_le _⟩ rfl (fun H locs hP hD hS => ?_)
        refine lv_if_eq (tgt := 96) X.1 X.2.1 dX9_maybeOf_88 (by decide) (fun c14 => ?_) (fun c14 => ?_)
        · have hf := ite_t hf c14
          refine lv_lconst (v := 0) X.1 X.2.1 dX9_maybeOf_96 rfl ?_
          refine lv_ladd X.1 X.2.1 dX9_maybeOf_97 ?_
          obtain ⟨w15, ew15, hf⟩ := stp_e hf
          refine z_topl ew15 ?_
          refine lv_lstore (lv' := [(5, .long w15), (0, .ref (aM 0)), (1, .int n27_0), (2, .int n27_1), (3, .int n27_2), (4, .int n27_3), (7, .int n27_5), (8, .long n27_6), (10, .int n27_7)]) X.1 X.2.1 dX9_maybeOf_98 hl (by decide) rfl (fun ls hl => ?_)
          obtain ⟨w16, ew16, hf⟩ := stp_e hf
          refine lv_iinc (v := w16) (lv' := [(7, .int w16), (5, .long w15), (0, .ref (aM 0)), (1, .int n27_0), (2, .int n27_1), (3, .int n27_2), (4, .int n27_3), (8, .long n27_6), (10, .int n27_7)]) X.1 X.2.1 dX9_maybeOf_100 hl (k := 6) rfl (by rw [ew16]; rfl) (by decide) rfl (fun ls hl => ?_)
          refine lv_goto (tgt := 10) X.1 X.2.1 dX9_maybeOf_103 (by decide) ?_
          exact hrec10 _ _ _ _ _ _ _ hf _ _ hP hD hS _ (lv_sub hl [2, 3, 4, 5, 6, 1, 0] rfl)
        · have hf := ite_f hf c14
          refine lv_lload X.1 X.2.1 dX9_maybeOf_91 (lv_at hl 7 rfl) ?_
          refine lv_goto (tgt := 97) X.1 X.2.1 dX9_maybeOf_93 (by decide) ?_
          refine lv_ladd X.1 X.2.1 dX9_maybeOf_97 ?_
          obtain ⟨w17, ew17, hf⟩ := stp_e hf
          refine z_topl ew17 ?_
          refine lv_lstore (lv' := [(5, .long w17), (0, .ref (aM 0)), (1, .int n27_0), (2, .int n27_1), (3, .int n27_2), (4, .int n27_3), (7, .int n27_5), (8, .long n27_6), (10, .int n27_7)]) X.1 X.2.1 dX9_maybeOf_98 hl (by decide) rfl (fun ls hl => ?_)
          obtain ⟨w18, ew18, hf⟩ := stp_e hf
          refine lv_iinc (v := w18) (lv' := [(7, .int w18), (5, .long w17), (0, .ref (aM 0)), (1, .int n27_0), (2, .int n27_1), (3, .int n27_2), (4, .int n27_3), (8, .long n27_6), (10, .int n27_7)]) X.1 X.2.1 dX9_maybeOf_100 hl (k := 6) rfl (by rw [ew18]; rfl) (by decide) rfl (fun ls hl => ?_)
          refine lv_goto (tgt := 10) X.1 X.2.1 dX9_maybeOf_103 (by decide) ?_
          exact hrec10 _ _ _ _ _ _ _ hf _ _ hP hD hS _ (lv_sub hl [2, 3, 4, 5, 6, 1, 0] rfl)
      · have hf := ite_f hf c6
        refine lv_lload X.1 X.2.1 dX9_maybeOf_36 (lv_at hl 7 rfl) ?_
        refine lv_iload X.1 X.2.1 dX9_maybeOf_38 (lv_at hl 6 rfl) ?_
        refine lv_iload X.1 X.2.1 dX9_maybeOf_40 (lv_at hl 8 rfl) ?_
        obtain ⟨r19, hc20, hf⟩ := bd1_e hf
        refine z_S (n := 2) (As := [.int n27_5, .int n27_7]) (rest := [.long n27_6]) X hK hN (kX9_isIn l D K _ n27_5 n27_7 r19 hc20) (bw_S W21_8 W21_9 W1_5 W21_10) rfl ⟨rfl, rfl⟩ (by decide +kernel) rfl ⟨Nat.le_of_ble_eq_true rfl, Nat.le_of_ble_eq_true rfl⟩ (fun _ _ h => by simp at h) ⟨fun _ _ _ _ h => by simp at h, fun _ _ h => by simp at h⟩ (zj_none hP hD hS hA) hS hl.1 rfl (Nat.le_of_ble_eq_true rfl) dX9_maybeOf_42 ⟨Nat.zero_le _, Nat.zero_le _⟩ rfl (fun H locs hP hD hS => ?_)
        refine lv_if_eq (tgt := 53) X.1 X.2.1 dX9_maybeOf_45 (by decide) (fun c21 => ?_) (fun c21 => ?_)
        · have hf := ite_t hf c21
          refine lv_bipush (v := 16) X.1 X.2.1 dX9_maybeOf_53 (by decide) ?_
          refine lv_iload_n X.1 X.2.1 dX9_maybeOf_55 rfl (lv_at hl 1 rfl) ?_
          refine lv_isub X.1 X.2.1 dX9_maybeOf_56 ?_
          refine lv_i2l X.1 X.2.1 dX9_maybeOf_57 rfl ?_
          refine lv_lmul X.1 X.2.1 dX9_maybeOf_58 ?_
          obtain ⟨w22, ew22, hf⟩ := stp_e hf
          refine z_topl ew22 ?_
          refine lv_lstore (lv' := [(8, .long w22), (0, .ref (aM 0)), (1, .int n27_0), (2, .int n27_1), (3, .int n27_2), (4, .int n27_3), (5, .long n27_4), (7, .int n27_5), (10, .int n27_7)]) X.1 X.2.1 dX9_maybeOf_59 hl (by decide) rfl (fun ls hl => ?_)
          obtain ⟨w23, ew23, hf⟩ := stp_e hf
          refine lv_iinc (v := w23) (lv' := [(10, .int w23), (8, .long w22), (0, .ref (aM 0)), (1, .int n27_0), (2, .int n27_1), (3, .int n27_2), (4, .int n27_3), (5, .long n27_4), (7, .int n27_5)]) X.1 X.2.1 dX9_maybeOf_61 hl (k := 8) rfl (by rw [ew23]; rfl) (by decide) rfl (fun ls hl => ?_)
          refine lv_goto (tgt := 27) X.1 X.2.1 dX9_maybeOf_64 (by decide) ?_
          exact ih _ _ _ _ _ _ _ _ _ hf _ _ hP hD hS _ (lv_sub hl [2, 3, 4, 5, 6, 7, 8, 1, 0] rfl)
        · have hf := ite_f hf c21
          refine lv_iload_n X.1 X.2.1 dX9_maybeOf_48 rfl (lv_at hl 1 rfl) ?_
          refine lv_i2l X.1 X.2.1 dX9_maybeOf_49 rfl ?_
          refine lv_goto (tgt := 58) X.1 X.2.1 dX9_maybeOf_50 (by decide) ?_
          refine lv_lmul X.1 X.2.1 dX9_maybeOf_58 ?_
          obtain ⟨w24, ew24, hf⟩ := stp_e hf
          refine z_topl ew24 ?_
          refine lv_lstore (lv' := [(8, .long w24), (0, .ref (aM 0)), (1, .int n27_0), (2, .int n27_1), (3, .int n27_2), (4, .int n27_3), (5, .long n27_4), (7, .int n27_5), (10, .int n27_7)]) X.1 X.2.1 dX9_maybeOf_59 hl (by decide) rfl (fun ls hl => ?_)
          obtain ⟨w25, ew25, hf⟩ := stp_e hf
          refine lv_iinc (v := w25) (lv' := [(10, .int w25), (8, .long w24), (0, .ref (aM 0)), (1, .int n27_0), (2, .int n27_1), (3, .int n27_2), (4, .int n27_3), (5, .long n27_4), (7, .int n27_5)]) X.1 X.2.1 dX9_maybeOf_61 hl (k := 8) rfl (by rw [ew25]; rfl) (by decide) rfl (fun ls hl => ?_)
          refine lv_goto (tgt := 27) X.1 X.2.1 dX9_maybeOf_64 (by decide) ?_
          exact ih _ _ _ _ _ _ _ _ _ hf _ _ hP hD hS _ (lv_sub hl [2, 3, 4, 5, 6, 7, 8, 1, 0] rfl)
  have L10_0 : ∀ (n : Nat), ∀ (n10_0 : Int32) (n10_1 : Int32) (n10_2 : Int32) (n10_3 : Int32) (n10_4 : Int64) (n10_5 : Int32) (q10_M : St), fX9_maybeOf_10 n n10_0 n10_1 n10_2 n10_3 n10_4 n10_5 q10_M = some ((q_, s_)) → ∀ (H : Heap) (locs : List Loc), va_P D vwCl (wbX9 K aM q10_M) H → va_D A (wbX9 K aM q10_M) → va_S A s.heap H locs → ∀ (ls : Array Slot), lv_has ls 11 [(0, .ref (aM 0)), (1, .int n10_0), (2, .int n10_1), (3, .int n10_2), (4, .int n10_3), (5, .long n10_4), (7, .int n10_5)] → W p l e rmX9_maybeOf s m ([.ref (aM 0), .int x1, .int x2, .int x3, .int x4] : List Value).toArray below meth c H locs 0 0 (MQ below (zQ (some (.long q_)) D A (wbX9 K aM s_)) ([.ref (aM 0), .int x1, .int x2, .int x3, .int x4] : List Value).toArray s 0 0 A) (F0 m 10 ls []) := by
    intro n
    induction n with
    | zero =>
      intro n10_0 n10_1 n10_2 n10_3 n10_4 n10_5 q10_M hf
      rw [fX9_maybeOf_10] at hf
      cases hf
    | succ n ih =>
      intro n10_0 n10_1 n10_2 n10_3 n10_4 n10_5 q10_M hf H locs hP hD hS ls hl
      rw [fX9_maybeOf_10] at hf
      refine lv_iload X.1 X.2.1 dX9_maybeOf_10 (lv_at hl 6 rfl) ?_
      refine lv_iconst (v := 1) X.1 X.2.1 dX9_maybeOf_12 (by decide) ?_
      refine lv_aload_n X.1 X.2.1 dX9_maybeOf_13 rfl (lv_at hl 0 rfl) ?_
      refine z_get X hK hP hiX9 0 rfl rfl 6 (by decide) (bw_in W10_13) rfl dX9_maybeOf_14 ?_
      refine lv_ishl X.1 X.2.1 dX9_maybeOf_17 ?_
      refine lv_icmp_ge (tgt := 106) X.1 X.2.1 dX9_maybeOf_18 (by decide) (fun c3 => ?_) (fun c3 => ?_)
      · have hf := ite_t hf c3
        refine lv_lload X.1 X.2.1 dX9_maybeOf_106 (lv_at hl 5 rfl) ?_
        refine lv_lconst (v := 1) X.1 X.2.1 dX9_maybeOf_108 rfl ?_
        refine lv_iconst (v := 4) X.1 X.2.1 dX9_maybeOf_109 (by decide) ?_
        refine lv_aload_n X.1 X.2.1 dX9_maybeOf_110 rfl (lv_at hl 0 rfl) ?_
        refine z_get X hK hP hiX9 0 rfl rfl 6 (by decide) (bw_in W10_13) rfl dX9_maybeOf_111 ?_
        refine lv_imul X.1 X.2.1 dX9_maybeOf_114 ?_
        refine lv_lshl X.1 X.2.1 dX9_maybeOf_115 rfl ?_
        refine lv_iload X.1 X.2.1 dX9_maybeOf_116 (lv_at hl 4 rfl) ?_
        obtain ⟨r4, hc5, hf⟩ := bd1_e hf
        refine z_S (n := 3) (As := [.long n10_4, .long ((1 : Int64) <<< (((4 : Int32) * (q10_M 0 6) : Int32).toInt64 &&& 63)), .int n10_3]) (rest := []) X hK hN (kX9_lowest l D K _ n10_4 ((1 : Int64) <<< (((4 : Int32) * (q10_M 0 6) : Int32).toInt64 &&& 63)) n10_3 r4 hc5) (bw_S W37_12 W37_13 W1_5 W37_14) rfl ⟨rfl, rfl⟩ (by decide +kernel) rfl ⟨Nat.le_of_ble_eq_true rfl, Nat.le_of_ble_eq_true rfl⟩ (fun _ _ h => by simp at h) ⟨fun _ _ _ _ h => by simp at h, fun _ _ h => by simp at h⟩ (zj_none hP hD hS hA) hS hl.1 rfl (Nat.le_of_ble_eq_true rfl) dX9_maybeOf_118 ⟨Nat.zero_le _, Nat.zero_le _⟩ rfl (fun H locs hP hD hS => ?_)
        obtain ⟨rfl, rfl⟩ := z_inj2 hf
        exact z_lret X hr hlk hP hD hS dX9_maybeOf_121
      · have hf := ite_f hf c3
        refine lv_lconst (v := 1) X.1 X.2.1 dX9_maybeOf_21 rfl ?_
        refine lv_lstore (lv' := [(8, .long 1), (0, .ref (aM 0)), (1, .int n10_0), (2, .int n10_1), (3, .int n10_2), (4, .int n10_3), (5, .long n10_4), (7, .int n10_5)]) X.1 X.2.1 dX9_maybeOf_22 hl (by decide) rfl (fun ls hl => ?_)
        refine lv_iconst (v := 0) X.1 X.2.1 dX9_maybeOf_24 (by decide) ?_
        refine lv_istore (lv' := [(10, .int 0), (8, .long 1), (0, .ref (aM 0)), (1, .int n10_0), (2, .int n10_1), (3, .int n10_2), (4, .int n10_3), (5, .long n10_4), (7, .int n10_5)]) X.1 X.2.1 dX9_maybeOf_25 hl (by decide) rfl (fun ls hl => ?_)
        exact L27_1 _ ih _ _ _ _ _ _ _ _ _ _ hf _ _ hP hD hS _ (lv_sub hl [2, 3, 4, 5, 6, 7, 8, 1, 0] rfl)
  rw [fX9_maybeOf] at hf
  refine lv_aload_n X.1 X.2.1 dX9_maybeOf_0 rfl (lv_at hl 0 rfl) ?_
  obtain ⟨s1, hc2, hf⟩ := bd1_e hf
  refine z_V (n := 0) (As := []) (rest := []) (ci := 9) (q0 := 0) X hK hN (kX9_asTold l D K aM s0 _ s1 hc2) (bw_V W20_3 W20_4 W20_5 W1_5 W20_6) rfl ⟨rfl, rfl⟩ (by decide +kernel) rfl ⟨Nat.le_of_ble_eq_true rfl, Nat.le_of_ble_eq_true rfl⟩ hP hD rfl rfl (zj_same hD hS hA) hS hl.1 rfl (Nat.le_of_ble_eq_true rfl) dX9_maybeOf_1 ⟨Nat.zero_le _, Nat.zero_le _⟩ rfl (fun H locs hP hD hS => ?_)
  refine lv_lconst (v := 0) X.1 X.2.1 dX9_maybeOf_4 rfl ?_
  refine lv_lstore (lv' := [(5, .long 0), (0, .ref (aM 0)), (1, .int x1), (2, .int x2), (3, .int x3), (4, .int x4)]) X.1 X.2.1 dX9_maybeOf_5 hl (by decide) rfl (fun ls hl => ?_)
  refine lv_iconst (v := 0) X.1 X.2.1 dX9_maybeOf_7 (by decide) ?_
  refine lv_istore (lv' := [(7, .int 0), (5, .long 0), (0, .ref (aM 0)), (1, .int x1), (2, .int x2), (3, .int x3), (4, .int x4)]) X.1 X.2.1 dX9_maybeOf_8 hl (by decide) rfl (fun ls hl => ?_)
  exact L10_0  _ _ _ _ _ _ _ _ hf _ _ hP hD hS _ (lv_sub hl [2, 3, 4, 5, 6, 1, 0] rfl)
abbrev rmX9_maybe : Room := { frames := 8, cells := 0, slots := 0, locals := 193 }
set_option maxHeartbeats 4000000 in
set_option maxRecDepth 100000 in
theorem kX9_maybe (l : Launch) (D : va_G) (K : Nat → ClassId) (aM : Nat → Nat) (s0 : St) (sz : Nat) (x1 : Int32) (x2 : Int32) (x3 : Int32) (x4 : Int32) (q_ : Int64) (s_ : St) (hf : fX9_maybe s0 x1 x2 x3 x4 = some (q_, s_)) : Met l yX9_maybe (bw (Cond.code yX9_maybe cX9_maybe 5 (some .long))) rmX9_maybe (va_Pc [.ref (aM 0), .int x1, .int x2, .int x3, .int x4] (zB D K sz (wbX9 K aM s0))) (zQ (some (.long q_)) D (va_A (wbX9 K aM s0) sz) (wbX9 K aM s_)) 0 0 (va_A (wbX9 K aM s0) sz) := by
  refine z_of (cc := cX9_maybe) (maxL := 5) (ret := (some .long)) (own := RX9) (lv := [(0, .ref (aM 0)), (1, .int x1), (2, .int x2), (3, .int x3), (4, .int x4)]) (by decide) rfl rfl (Nat.le_of_ble_eq_true rfl) rfl ?_
  intro p e s m below meth c X hr hlk hK hN hsz hP hD hA hS hin ls hl
  generalize va_A (wbX9 K aM s0) sz = A at hD hA hS hN ⊢
  rw [fX9_maybe] at hf
  refine lv_iload_n X.1 X.2.1 dX9_maybe_0 rfl (lv_at hl 1 rfl) ?_
  refine lv_iconst (v := 0) X.1 X.2.1 dX9_maybe_1 (by decide) ?_
  refine lv_bipush (v := 16) X.1 X.2.1 dX9_maybe_2 (by decide) ?_
  obtain ⟨r1, hc2, hf⟩ := bd1_e hf
  refine z_S (n := 3) (As := [.int x1, .int 0, .int 16]) (rest := []) X hK hN (kX9_in l D K _ x1 0 16 r1 hc2) (bw_S W8_17 W8_18 W1_5 W8_19) rfl ⟨rfl, rfl⟩ (by decide +kernel) rfl ⟨Nat.le_of_ble_eq_true rfl, Nat.le_of_ble_eq_true rfl⟩ (fun _ _ h => by simp at h) ⟨fun _ _ _ _ h => by simp at h, fun _ _ h => by simp at h⟩ (zj_none hP hD hS hA) hS hl.1 rfl (Nat.le_of_ble_eq_true rfl) dX9_maybe_4 ⟨Nat.zero_le _, Nat.zero_le _⟩ rfl (fun H locs hP hD hS => ?_)
  refine lv_if_eq (tgt := 47) X.1 X.2.1 dX9_maybe_7 (by decide) (fun c3 => ?_) (fun c3 => ?_)
  · have hf := ite_t hf c3
    refine lv_bipush (v := -2) X.1 X.2.1 dX9_maybe_47 (by decide) ?_
    obtain ⟨r4, hc5, hf⟩ := bd1_e hf
    refine z_S (n := 1) (As := [.int ((-2))]) (rest := []) X hK hN (kX9_no l D K _ ((-2)) r4 hc5) (bw_S W37_15 W37_16 W1_5 W37_17) rfl ⟨rfl, rfl⟩ (by decide +kernel) rfl ⟨Nat.le_of_ble_eq_true rfl, Nat.le_of_ble_eq_true rfl⟩ (fun _ _ h => by simp at h) ⟨fun _ _ _ _ h => by simp at h, fun _ _ h => by simp at h⟩ (zj_none hP hD hS hA) hS hl.1 rfl (Nat.le_of_ble_eq_true rfl) dX9_maybe_49 ⟨Nat.zero_le _, Nat.zero_le _⟩ rfl (fun H locs hP hD hS => ?_)
    obtain ⟨rfl, rfl⟩ := z_inj2 hf
    exact z_lret X hr hlk hP hD hS dX9_maybe_52
  · have hf := ite_f hf c3
    refine lv_aload_n X.1 X.2.1 dX9_maybe_10 rfl (lv_at hl 0 rfl) ?_
    refine lv_iload_n X.1 X.2.1 dX9_maybe_11 rfl (lv_at hl 2 rfl) ?_
    obtain ⟨r6, s7, hc8, hf⟩ := bd2_e hf
    refine z_V (n := 1) (As := [.int x2]) (rest := []) (ci := 9) (q0 := 0) X hK hN (kX9_isRider l D K aM s0 _ x2 r6 s7 hc8) (bw_V W16_9 W16_10 W16_11 W1_5 W16_12) rfl ⟨rfl, rfl⟩ (by decide +kernel) rfl ⟨Nat.le_of_ble_eq_true rfl, Nat.le_of_ble_eq_true rfl⟩ hP hD rfl rfl (zj_same hD hS hA) hS hl.1 rfl (Nat.le_of_ble_eq_true rfl) dX9_maybe_12 ⟨Nat.zero_le _, Nat.zero_le _⟩ rfl (fun H locs hP hD hS => ?_)
    refine lv_if_eq (tgt := 47) X.1 X.2.1 dX9_maybe_15 (by decide) (fun c9 => ?_) (fun c9 => ?_)
    · have hf := ite_t hf c9
      refine lv_bipush (v := -2) X.1 X.2.1 dX9_maybe_47 (by decide) ?_
      obtain ⟨r10, hc11, hf⟩ := bd1_e hf
      refine z_S (n := 1) (As := [.int ((-2))]) (rest := []) X hK hN (kX9_no l D K _ ((-2)) r10 hc11) (bw_S W37_15 W37_16 W1_5 W37_17) rfl ⟨rfl, rfl⟩ (by decide +kernel) rfl ⟨Nat.le_of_ble_eq_true rfl, Nat.le_of_ble_eq_true rfl⟩ (fun _ _ h => by simp at h) ⟨fun _ _ _ _ h => by simp at h, fun _ _ h => by simp at h⟩ (zj_none hP hD hS hA) hS hl.1 rfl (Nat.le_of_ble_eq_true rfl) dX9_maybe_49 ⟨Nat.zero_le _, Nat.zero_le _⟩ rfl (fun H locs hP hD hS => ?_)
      obtain ⟨rfl, rfl⟩ := z_inj2 hf
      exact z_lret X hr hlk hP hD hS dX9_maybe_52
    · have hf := ite_f hf c9
      refine lv_iload_n X.1 X.2.1 dX9_maybe_18 rfl (lv_at hl 3 rfl) ?_
      obtain ⟨r12, hc13, hf⟩ := bd1_e hf
      refine z_S (n := 1) (As := [.int x3]) (rest := []) X hK hN (kX9_isSteps l D K _ x3 r12 hc13) (bw_S W19_15 W19_16 W1_5 W19_17) rfl ⟨rfl, rfl⟩ (by decide +kernel) rfl ⟨Nat.le_of_ble_eq_true rfl, Nat.le_of_ble_eq_true rfl⟩ (fun _ _ h => by simp at h) ⟨fun _ _ _ _ h => by simp at h, fun _ _ h => by simp at h⟩ (zj_none hP hD hS hA) hS hl.1 rfl (Nat.le_of_ble_eq_true rfl) dX9_maybe_19 ⟨Nat.zero_le _, Nat.zero_le _⟩ rfl (fun H locs hP hD hS => ?_)
      refine lv_if_eq (tgt := 47) X.1 X.2.1 dX9_maybe_22 (by decide) (fun c14 => ?_) (fun c14 => ?_)
      · have hf := ite_t hf c14
        refine lv_bipush (v := -2) X.1 X.2.1 dX9_maybe_47 (by decide) ?_
        obtain ⟨r15, hc16, hf⟩ := bd1_e hf
        refine z_S (n := 1) (As := [.int ((-2))]) (rest := []) X hK hN (kX9_no l D K _ ((-2)) r15 hc16) (bw_S W37_15 W37_16 W1_5 W37_17) rfl ⟨rfl, rfl⟩ (by decide +kernel) rfl ⟨Nat.le_of_ble_eq_true rfl, Nat.le_of_ble_eq_true rfl⟩ (fun _ _ h => by simp at h) ⟨fun _ _ _ _ h => by simp at h, fun _ _ h => by simp at h⟩ (zj_none hP hD hS hA) hS hl.1 rfl (Nat.le_of_ble_eq_true rfl) dX9_maybe_49 ⟨Nat.zero_le _, Nat.zero_le _⟩ rfl (fun H locs hP hD hS => ?_)
        obtain ⟨rfl, rfl⟩ := z_inj2 hf
        exact z_lret X hr hlk hP hD hS dX9_maybe_52
      · have hf := ite_f hf c14
        refine lv_iload X.1 X.2.1 dX9_maybe_25 (lv_at hl 4 rfl) ?_
        refine lv_iconst (v := 0) X.1 X.2.1 dX9_maybe_27 (by decide) ?_
        refine lv_iconst (v := 1) X.1 X.2.1 dX9_maybe_28 (by decide) ?_
        obtain ⟨r17, hc18, hf⟩ := bd1_e hf
        refine z_S (n := 3) (As := [.int x4, .int 0, .int 1]) (rest := []) X hK hN (kX9_in l D K _ x4 0 1 r17 hc18) (bw_S W8_17 W8_18 W1_5 W8_19) rfl ⟨rfl, rfl⟩ (by decide +kernel) rfl ⟨Nat.le_of_ble_eq_true rfl, Nat.le_of_ble_eq_true rfl⟩ (fun _ _ h => by simp at h) ⟨fun _ _ _ _ h => by simp at h, fun _ _ h => by simp at h⟩ (zj_none hP hD hS hA) hS hl.1 rfl (Nat.le_of_ble_eq_true rfl) dX9_maybe_29 ⟨Nat.zero_le _, Nat.zero_le _⟩ rfl (fun H locs hP hD hS => ?_)
        refine lv_if_eq (tgt := 47) X.1 X.2.1 dX9_maybe_32 (by decide) (fun c19 => ?_) (fun c19 => ?_)
        · have hf := ite_t hf c19
          refine lv_bipush (v := -2) X.1 X.2.1 dX9_maybe_47 (by decide) ?_
          obtain ⟨r20, hc21, hf⟩ := bd1_e hf
          refine z_S (n := 1) (As := [.int ((-2))]) (rest := []) X hK hN (kX9_no l D K _ ((-2)) r20 hc21) (bw_S W37_15 W37_16 W1_5 W37_17) rfl ⟨rfl, rfl⟩ (by decide +kernel) rfl ⟨Nat.le_of_ble_eq_true rfl, Nat.le_of_ble_eq_true rfl⟩ (fun _ _ h => by simp at h) ⟨fun _ _ _ _ h => by simp at h, fun _ _ h => by simp at h⟩ (zj_none hP hD hS hA) hS hl.1 rfl (Nat.le_of_ble_eq_true rfl) dX9_maybe_49 ⟨Nat.zero_le _, Nat.zero_le _⟩ rfl (fun H locs hP hD hS => ?_)
          obtain ⟨rfl, rfl⟩ := z_inj2 hf
          exact z_lret X hr hlk hP hD hS dX9_maybe_52
        · have hf := ite_f hf c19
          refine lv_aload_n X.1 X.2.1 dX9_maybe_35 rfl (lv_at hl 0 rfl) ?_
          refine lv_iload_n X.1 X.2.1 dX9_maybe_36 rfl (lv_at hl 1 rfl) ?_
          refine lv_iload_n X.1 X.2.1 dX9_maybe_37 rfl (lv_at hl 2 rfl) ?_
          refine lv_iload_n X.1 X.2.1 dX9_maybe_38 rfl (lv_at hl 3 rfl) ?_
          refine lv_iload X.1 X.2.1 dX9_maybe_39 (lv_at hl 4 rfl) ?_
          obtain ⟨r22, s23, hc24, hf⟩ := bd2_e hf
          refine z_V (n := 4) (As := [.int x1, .int x2, .int x3, .int x4]) (rest := []) (ci := 9) (q0 := 0) X hK hN (kX9_maybeOf l D K aM s7 _ x1 x2 x3 x4 r22 s23 hc24) (bw_V W37_8 W37_9 W37_10 W1_5 W37_11) rfl ⟨rfl, rfl⟩ (by decide +kernel) rfl ⟨Nat.le_of_ble_eq_true rfl, Nat.le_of_ble_eq_true rfl⟩ hP hD rfl rfl (zj_same hD hS hA) hS hl.1 rfl (Nat.le_of_ble_eq_true rfl) dX9_maybe_41 ⟨Nat.zero_le _, Nat.zero_le _⟩ rfl (fun H locs hP hD hS => ?_)
          refine lv_goto (tgt := 52) X.1 X.2.1 dX9_maybe_44 (by decide) ?_
          obtain ⟨rfl, rfl⟩ := z_inj2 hf
          exact z_lret X hr hlk hP hD hS dX9_maybe_52
abbrev rmX9_whoOf : Room := { frames := 7, cells := 0, slots := 0, locals := 163 }
set_option maxHeartbeats 4000000 in
set_option maxRecDepth 100000 in
theorem kX9_whoOf (l : Launch) (D : va_G) (K : Nat → ClassId) (aM : Nat → Nat) (s0 : St) (sz : Nat) (x1 : Int32) (q_ : Int32) (s_ : St) (hf : fX9_whoOf s0 x1 = some (q_, s_)) : Met l yX9_whoOf (bw (Cond.code yX9_whoOf cX9_whoOf 5 (some .int))) rmX9_whoOf (va_Pc [.ref (aM 0), .int x1] (zB D K sz (wbX9 K aM s0))) (zQ (some (.int q_)) D (va_A (wbX9 K aM s0) sz) (wbX9 K aM s_)) 0 0 (va_A (wbX9 K aM s0) sz) := by
  refine z_of (cc := cX9_whoOf) (maxL := 5) (ret := (some .int)) (own := RX9) (lv := [(0, .ref (aM 0)), (1, .int x1)]) (by decide) rfl rfl (Nat.le_of_ble_eq_true rfl) rfl ?_
  intro p e s m below meth c X hr hlk hK hN hsz hP hD hA hS hin ls hl
  generalize va_A (wbX9 K aM s0) sz = A at hD hA hS hN ⊢
  have hiX9 : ∀ w ∈ u_ws RX9 TX9 44, w ∈ (bw (Cond.code yX9_whoOf cX9_whoOf 5 (some .int))) := fun w h => bw_in (inlX9 w h)
  have L16_0 : ∀ (n : Nat), ∀ (n16_0 : Int32) (n16_1 : Int32) (n16_2 : Int32) (n16_3 : Int32) (q16_M : St), fX9_whoOf_16 n n16_0 n16_1 n16_2 n16_3 q16_M = some ((q_, s_)) → ∀ (H : Heap) (locs : List Loc), va_P D vwCl (wbX9 K aM q16_M) H → va_D A (wbX9 K aM q16_M) → va_S A s.heap H locs → ∀ (ls : Array Slot), lv_has ls 5 [(0, .ref (aM 0)), (1, .int n16_0), (2, .int n16_1), (3, .int n16_2), (4, .int n16_3)] → W p l e rmX9_whoOf s m ([.ref (aM 0), .int x1] : List Value).toArray below meth c H locs 0 0 (MQ below (zQ (some (.int q_)) D A (wbX9 K aM s_)) ([.ref (aM 0), .int x1] : List Value).toArray s 0 0 A) (F0 m 16 ls []) := by
    intro n
    induction n with
    | zero =>
      intro n16_0 n16_1 n16_2 n16_3 q16_M hf
      rw [fX9_whoOf_16] at hf
      cases hf
    | succ n ih =>
      intro n16_0 n16_1 n16_2 n16_3 q16_M hf H locs hP hD hS ls hl
      rw [fX9_whoOf_16] at hf
      refine lv_iload X.1 X.2.1 dX9_whoOf_16 (lv_at hl 4 rfl) ?_
      refine lv_aload_n X.1 X.2.1 dX9_whoOf_18 rfl (lv_at hl 0 rfl) ?_
      refine z_get X hK hP hiX9 0 rfl rfl 2 (by decide) (bw_in W10_12) rfl dX9_whoOf_19 ?_
      refine lv_icmp_ge (tgt := 57) X.1 X.2.1 dX9_whoOf_22 (by decide) (fun c5 => ?_) (fun c5 => ?_)
      · have hf := ite_t hf c5
        refine lv_aload_n X.1 X.2.1 dX9_whoOf_57 rfl (lv_at hl 0 rfl) ?_
        refine z_get X hK hP hiX9 0 rfl rfl 8 (by decide) (bw_in W6_22) rfl dX9_whoOf_58 ?_
        refine lv_iload_n X.1 X.2.1 dX9_whoOf_61 rfl (lv_at hl 1 rfl) ?_
        refine lv_iload_n X.1 X.2.1 dX9_whoOf_62 rfl (lv_at hl 2 rfl) ?_
        obtain ⟨hi6, hf⟩ := chk_e hf
        obtain ⟨s7, es7, hf⟩ := stp_e hf
        refine z_iast (ws' := wbX9 K aM s7) X hK hP hD hS 7 rfl hi6 dX9_whoOf_63 (by rw [es7]; rfl) (fun H locs hP hD hS => ?_)
        refine lv_iload_n X.1 X.2.1 dX9_whoOf_64 rfl (lv_at hl 3 rfl) ?_
        obtain ⟨rfl, rfl⟩ := z_inj2 hf
        exact z_iret X hr hlk hP hD hS dX9_whoOf_65
      · have hf := ite_f hf c5
        refine lv_aload_n X.1 X.2.1 dX9_whoOf_25 rfl (lv_at hl 0 rfl) ?_
        refine z_get X hK hP hiX9 0 rfl rfl 8 (by decide) (bw_in W6_22) rfl dX9_whoOf_26 ?_
        refine lv_iload_n X.1 X.2.1 dX9_whoOf_29 rfl (lv_at hl 1 rfl) ?_
        refine lv_iload X.1 X.2.1 dX9_whoOf_30 (lv_at hl 4 rfl) ?_
        obtain ⟨hi8, hf⟩ := chk_e hf
        obtain ⟨s9, es9, hf⟩ := stp_e hf
        refine z_iast (ws' := wbX9 K aM s9) X hK hP hD hS 7 rfl hi8 dX9_whoOf_32 (by rw [es9]; rfl) (fun H locs hP hD hS => ?_)
        refine lv_iload_n X.1 X.2.1 dX9_whoOf_33 rfl (lv_at hl 3 rfl) ?_
        refine lv_aload_n X.1 X.2.1 dX9_whoOf_34 rfl (lv_at hl 0 rfl) ?_
        obtain ⟨r10, s11, hc12, hf⟩ := bd2_e hf
        refine z_V (n := 0) (As := []) (rest := [.int n16_2]) (ci := 9) (q0 := 0) X hK hN (kX9_isSeen l D K aM s9 _ r10 s11 hc12) (bw_V W33_15 W33_16 W33_17 W1_5 W33_18) rfl ⟨rfl, rfl⟩ (by decide +kernel) rfl ⟨Nat.le_of_ble_eq_true rfl, Nat.le_of_ble_eq_true rfl⟩ hP hD rfl rfl (zj_same hD hS hA) hS hl.1 rfl (Nat.le_of_ble_eq_true rfl) dX9_whoOf_35 ⟨Nat.zero_le _, Nat.zero_le _⟩ rfl (fun H locs hP hD hS => ?_)
        refine lv_if_eq (tgt := 48) X.1 X.2.1 dX9_whoOf_38 (by decide) (fun c13 => ?_) (fun c13 => ?_)
        · have hf := ite_t hf c13
          refine lv_iconst (v := 0) X.1 X.2.1 dX9_whoOf_48 (by decide) ?_
          refine lv_ior X.1 X.2.1 dX9_whoOf_49 ?_
          obtain ⟨w14, ew14, hf⟩ := stp_e hf
          refine z_top ew14 ?_
          refine lv_istore_n (lv' := [(3, .int w14), (0, .ref (aM 0)), (1, .int n16_0), (2, .int n16_1), (4, .int n16_3)]) X.1 X.2.1 dX9_whoOf_50 rfl hl (by decide) rfl (fun ls hl => ?_)
          obtain ⟨w15, ew15, hf⟩ := stp_e hf
          refine lv_iinc (v := w15) (lv' := [(4, .int w15), (3, .int w14), (0, .ref (aM 0)), (1, .int n16_0), (2, .int n16_1)]) X.1 X.2.1 dX9_whoOf_51 hl (k := 4) rfl (by rw [ew15]; rfl) (by decide) rfl (fun ls hl => ?_)
          refine lv_goto (tgt := 16) X.1 X.2.1 dX9_whoOf_54 (by decide) ?_
          exact ih _ _ _ _ _ hf _ _ hP hD hS _ (lv_sub hl [2, 3, 4, 1, 0] rfl)
        · have hf := ite_f hf c13
          refine lv_iconst (v := 1) X.1 X.2.1 dX9_whoOf_41 (by decide) ?_
          refine lv_iload X.1 X.2.1 dX9_whoOf_42 (lv_at hl 4 rfl) ?_
          refine lv_ishl X.1 X.2.1 dX9_whoOf_44 ?_
          refine lv_goto (tgt := 49) X.1 X.2.1 dX9_whoOf_45 (by decide) ?_
          refine lv_ior X.1 X.2.1 dX9_whoOf_49 ?_
          obtain ⟨w16, ew16, hf⟩ := stp_e hf
          refine z_top ew16 ?_
          refine lv_istore_n (lv' := [(3, .int w16), (0, .ref (aM 0)), (1, .int n16_0), (2, .int n16_1), (4, .int n16_3)]) X.1 X.2.1 dX9_whoOf_50 rfl hl (by decide) rfl (fun ls hl => ?_)
          obtain ⟨w17, ew17, hf⟩ := stp_e hf
          refine lv_iinc (v := w17) (lv' := [(4, .int w17), (3, .int w16), (0, .ref (aM 0)), (1, .int n16_0), (2, .int n16_1)]) X.1 X.2.1 dX9_whoOf_51 hl (k := 4) rfl (by rw [ew17]; rfl) (by decide) rfl (fun ls hl => ?_)
          refine lv_goto (tgt := 16) X.1 X.2.1 dX9_whoOf_54 (by decide) ?_
          exact ih _ _ _ _ _ hf _ _ hP hD hS _ (lv_sub hl [2, 3, 4, 1, 0] rfl)
  rw [fX9_whoOf] at hf
  refine lv_aload_n X.1 X.2.1 dX9_whoOf_0 rfl (lv_at hl 0 rfl) ?_
  obtain ⟨s1, hc2, hf⟩ := bd1_e hf
  refine z_V (n := 0) (As := []) (rest := []) (ci := 9) (q0 := 0) X hK hN (kX9_asTold l D K aM s0 _ s1 hc2) (bw_V W20_3 W20_4 W20_5 W1_5 W20_6) rfl ⟨rfl, rfl⟩ (by decide +kernel) rfl ⟨Nat.le_of_ble_eq_true rfl, Nat.le_of_ble_eq_true rfl⟩ hP hD rfl rfl (zj_same hD hS hA) hS hl.1 rfl (Nat.le_of_ble_eq_true rfl) dX9_whoOf_1 ⟨Nat.zero_le _, Nat.zero_le _⟩ rfl (fun H locs hP hD hS => ?_)
  refine lv_aload_n X.1 X.2.1 dX9_whoOf_4 rfl (lv_at hl 0 rfl) ?_
  refine z_get X hK hP hiX9 0 rfl rfl 8 (by decide) (bw_in W6_22) rfl dX9_whoOf_5 ?_
  refine lv_iload_n X.1 X.2.1 dX9_whoOf_8 rfl (lv_at hl 1 rfl) ?_
  obtain ⟨hi4, hf⟩ := chk_e hf
  obtain ⟨v3, ev3, hf⟩ := stp_e hf
  refine z_iald X hK hP 7 rfl hi4 ev3 dX9_whoOf_9 ?_
  refine lv_istore_n (lv' := [(2, .int v3), (0, .ref (aM 0)), (1, .int x1)]) X.1 X.2.1 dX9_whoOf_10 rfl hl (by decide) rfl (fun ls hl => ?_)
  refine lv_iconst (v := 0) X.1 X.2.1 dX9_whoOf_11 (by decide) ?_
  refine lv_istore_n (lv' := [(3, .int 0), (2, .int v3), (0, .ref (aM 0)), (1, .int x1)]) X.1 X.2.1 dX9_whoOf_12 rfl hl (by decide) rfl (fun ls hl => ?_)
  refine lv_iconst (v := 0) X.1 X.2.1 dX9_whoOf_13 (by decide) ?_
  refine lv_istore (lv' := [(4, .int 0), (3, .int 0), (2, .int v3), (0, .ref (aM 0)), (1, .int x1)]) X.1 X.2.1 dX9_whoOf_14 hl (by decide) rfl (fun ls hl => ?_)
  exact L16_0  _ _ _ _ _ _ hf _ _ hP hD hS _ (lv_sub hl [3, 4, 2, 1, 0] rfl)
abbrev rmX9_knowsOf : Room := { frames := 8, cells := 0, slots := 0, locals := 183 }
set_option maxHeartbeats 4000000 in
set_option maxRecDepth 100000 in
theorem kX9_knowsOf (l : Launch) (D : va_G) (K : Nat → ClassId) (aM : Nat → Nat) (s0 : St) (sz : Nat) (x1 : Int32) (x2 : Int32) (q_ : Int32) (s_ : St) (hf : fX9_knowsOf s0 x1 x2 = some (q_, s_)) : Met l yX9_knowsOf (bw (Cond.code yX9_knowsOf cX9_knowsOf 3 (some .int))) rmX9_knowsOf (va_Pc [.ref (aM 0), .int x1, .int x2] (zB D K sz (wbX9 K aM s0))) (zQ (some (.int q_)) D (va_A (wbX9 K aM s0) sz) (wbX9 K aM s_)) 0 0 (va_A (wbX9 K aM s0) sz) := by
  refine z_of (cc := cX9_knowsOf) (maxL := 3) (ret := (some .int)) (own := RX9) (lv := [(0, .ref (aM 0)), (1, .int x1), (2, .int x2)]) (by decide) rfl rfl (Nat.le_of_ble_eq_true rfl) rfl ?_
  intro p e s m below meth c X hr hlk hK hN hsz hP hD hA hS hin ls hl
  generalize va_A (wbX9 K aM s0) sz = A at hD hA hS hN ⊢
  have hiX9 : ∀ w ∈ u_ws RX9 TX9 44, w ∈ (bw (Cond.code yX9_knowsOf cX9_knowsOf 3 (some .int))) := fun w h => bw_in (inlX9 w h)
  rw [fX9_knowsOf] at hf
  refine lv_aload_n X.1 X.2.1 dX9_knowsOf_0 rfl (lv_at hl 0 rfl) ?_
  obtain ⟨s1, hc2, hf⟩ := bd1_e hf
  refine z_V (n := 0) (As := []) (rest := []) (ci := 9) (q0 := 0) X hK hN (kX9_runsTold l D K aM s0 _ s1 hc2) (bw_V W19_23 W20_0 W20_1 W1_5 W20_2) rfl ⟨rfl, rfl⟩ (by decide +kernel) rfl ⟨Nat.le_of_ble_eq_true rfl, Nat.le_of_ble_eq_true rfl⟩ hP hD rfl rfl (zj_same hD hS hA) hS hl.1 rfl (Nat.le_of_ble_eq_true rfl) dX9_knowsOf_1 ⟨Nat.zero_le _, Nat.zero_le _⟩ rfl (fun H locs hP hD hS => ?_)
  refine lv_iload_n X.1 X.2.1 dX9_knowsOf_4 rfl (lv_at hl 2 rfl) ?_
  refine lv_if_ne (tgt := 17) X.1 X.2.1 dX9_knowsOf_5 (by decide) (fun c3 => ?_) (fun c3 => ?_)
  · have hf := ite_f hf c3
    refine lv_aload_n X.1 X.2.1 dX9_knowsOf_17 rfl (lv_at hl 0 rfl) ?_
    refine z_get X hK hP hiX9 0 rfl rfl 32 (by decide) (bw_in W7_9) rfl dX9_knowsOf_18 ?_
    refine lv_iload_n X.1 X.2.1 dX9_knowsOf_21 rfl (lv_at hl 1 rfl) ?_
    obtain ⟨hi5, hf⟩ := chk_e hf
    obtain ⟨v4, ev4, hf⟩ := stp_e hf
    refine z_iald X hK hP 18 rfl hi5 ev4 dX9_knowsOf_22 ?_
    obtain ⟨rfl, rfl⟩ := z_inj2 hf
    exact z_iret X hr hlk hP hD hS dX9_knowsOf_23
  · have hf := ite_t hf c3
    refine lv_aload_n X.1 X.2.1 dX9_knowsOf_8 rfl (lv_at hl 0 rfl) ?_
    refine z_get X hK hP hiX9 0 rfl rfl 31 (by decide) (bw_in W7_8) rfl dX9_knowsOf_9 ?_
    refine lv_iload_n X.1 X.2.1 dX9_knowsOf_12 rfl (lv_at hl 1 rfl) ?_
    obtain ⟨hi7, hf⟩ := chk_e hf
    obtain ⟨v6, ev6, hf⟩ := stp_e hf
    refine z_iald X hK hP 17 rfl hi7 ev6 dX9_knowsOf_13 ?_
    refine lv_goto (tgt := 23) X.1 X.2.1 dX9_knowsOf_14 (by decide) ?_
    obtain ⟨rfl, rfl⟩ := z_inj2 hf
    exact z_iret X hr hlk hP hD hS dX9_knowsOf_23
abbrev rmX9_ridesOf : Room := { frames := 8, cells := 0, slots := 0, locals := 183 }
set_option maxHeartbeats 4000000 in
set_option maxRecDepth 100000 in
theorem kX9_ridesOf (l : Launch) (D : va_G) (K : Nat → ClassId) (aM : Nat → Nat) (s0 : St) (sz : Nat) (x1 : Int32) (x2 : Int32) (q_ : Int32) (s_ : St) (hf : fX9_ridesOf s0 x1 x2 = some (q_, s_)) : Met l yX9_ridesOf (bw (Cond.code yX9_ridesOf cX9_ridesOf 3 (some .int))) rmX9_ridesOf (va_Pc [.ref (aM 0), .int x1, .int x2] (zB D K sz (wbX9 K aM s0))) (zQ (some (.int q_)) D (va_A (wbX9 K aM s0) sz) (wbX9 K aM s_)) 0 0 (va_A (wbX9 K aM s0) sz) := by
  refine z_of (cc := cX9_ridesOf) (maxL := 3) (ret := (some .int)) (own := RX9) (lv := [(0, .ref (aM 0)), (1, .int x1), (2, .int x2)]) (by decide) rfl rfl (Nat.le_of_ble_eq_true rfl) rfl ?_
  intro p e s m below meth c X hr hlk hK hN hsz hP hD hA hS hin ls hl
  generalize va_A (wbX9 K aM s0) sz = A at hD hA hS hN ⊢
  have hiX9 : ∀ w ∈ u_ws RX9 TX9 44, w ∈ (bw (Cond.code yX9_ridesOf cX9_ridesOf 3 (some .int))) := fun w h => bw_in (inlX9 w h)
  rw [fX9_ridesOf] at hf
  refine lv_aload_n X.1 X.2.1 dX9_ridesOf_0 rfl (lv_at hl 0 rfl) ?_
  obtain ⟨s1, hc2, hf⟩ := bd1_e hf
  refine z_V (n := 0) (As := []) (rest := []) (ci := 9) (q0 := 0) X hK hN (kX9_runsTold l D K aM s0 _ s1 hc2) (bw_V W19_23 W20_0 W20_1 W1_5 W20_2) rfl ⟨rfl, rfl⟩ (by decide +kernel) rfl ⟨Nat.le_of_ble_eq_true rfl, Nat.le_of_ble_eq_true rfl⟩ hP hD rfl rfl (zj_same hD hS hA) hS hl.1 rfl (Nat.le_of_ble_eq_true rfl) dX9_ridesOf_1 ⟨Nat.zero_le _, Nat.zero_le _⟩ rfl (fun H locs hP hD hS => ?_)
  refine lv_iload_n X.1 X.2.1 dX9_ridesOf_4 rfl (lv_at hl 2 rfl) ?_
  refine lv_if_ne (tgt := 17) X.1 X.2.1 dX9_ridesOf_5 (by decide) (fun c3 => ?_) (fun c3 => ?_)
  · have hf := ite_f hf c3
    refine lv_iload_n X.1 X.2.1 dX9_ridesOf_17 rfl (lv_at hl 2 rfl) ?_
    refine lv_iconst (v := 1) X.1 X.2.1 dX9_ridesOf_18 (by decide) ?_
    refine lv_icmp_ne (tgt := 31) X.1 X.2.1 dX9_ridesOf_19 (by decide) (fun c4 => ?_) (fun c4 => ?_)
    · have hf := ite_f hf c4
      refine lv_aload_n X.1 X.2.1 dX9_ridesOf_31 rfl (lv_at hl 0 rfl) ?_
      refine z_get X hK hP hiX9 0 rfl rfl 28 (by decide) (bw_in W7_7) rfl dX9_ridesOf_32 ?_
      refine lv_iload_n X.1 X.2.1 dX9_ridesOf_35 rfl (lv_at hl 1 rfl) ?_
      obtain ⟨hi6, hf⟩ := chk_e hf
      obtain ⟨v5, ev5, hf⟩ := stp_e hf
      refine z_iald X hK hP 16 rfl hi6 ev5 dX9_ridesOf_36 ?_
      obtain ⟨rfl, rfl⟩ := z_inj2 hf
      exact z_iret X hr hlk hP hD hS dX9_ridesOf_37
    · have hf := ite_t hf c4
      refine lv_aload_n X.1 X.2.1 dX9_ridesOf_22 rfl (lv_at hl 0 rfl) ?_
      refine z_get X hK hP hiX9 0 rfl rfl 27 (by decide) (bw_in W7_6) rfl dX9_ridesOf_23 ?_
      refine lv_iload_n X.1 X.2.1 dX9_ridesOf_26 rfl (lv_at hl 1 rfl) ?_
      obtain ⟨hi8, hf⟩ := chk_e hf
      obtain ⟨v7, ev7, hf⟩ := stp_e hf
      refine z_iald X hK hP 15 rfl hi8 ev7 dX9_ridesOf_27 ?_
      refine lv_goto (tgt := 37) X.1 X.2.1 dX9_ridesOf_28 (by decide) ?_
      obtain ⟨rfl, rfl⟩ := z_inj2 hf
      exact z_iret X hr hlk hP hD hS dX9_ridesOf_37
  · have hf := ite_t hf c3
    refine lv_aload_n X.1 X.2.1 dX9_ridesOf_8 rfl (lv_at hl 0 rfl) ?_
    refine z_get X hK hP hiX9 0 rfl rfl 26 (by decide) (bw_in W7_5) rfl dX9_ridesOf_9 ?_
    refine lv_iload_n X.1 X.2.1 dX9_ridesOf_12 rfl (lv_at hl 1 rfl) ?_
    obtain ⟨hi10, hf⟩ := chk_e hf
    obtain ⟨v9, ev9, hf⟩ := stp_e hf
    refine z_iald X hK hP 14 rfl hi10 ev9 dX9_ridesOf_13 ?_
    refine lv_goto (tgt := 37) X.1 X.2.1 dX9_ridesOf_14 (by decide) ?_
    obtain ⟨rfl, rfl⟩ := z_inj2 hf
    exact z_iret X hr hlk hP hD hS dX9_ridesOf_37
abbrev rmX9_riderOf : Room := { frames := 0, cells := 0, slots := 0, locals := 0 }
set_option maxHeartbeats 4000000 in
set_option maxRecDepth 100000 in
theorem kX9_riderOf (l : Launch) (D : va_G) (K : Nat → ClassId) (aM : Nat → Nat) (s0 : St) (sz : Nat) (x1 : Int32) (x2 : Int32) (q_ : Int32) (hf : fX9_riderOf s0 x1 x2 = some q_) : Met l yX9_riderOf (bw (Cond.code yX9_riderOf cX9_riderOf 3 (some .int))) rmX9_riderOf (va_Pc [.ref (aM 0), .int x1, .int x2] (zB D K sz (wbX9 K aM s0))) (zQ (some (.int q_)) D (va_A (wbX9 K aM s0) sz) (wbX9 K aM s0)) 0 0 (va_A (wbX9 K aM s0) sz) := by
  refine z_of (cc := cX9_riderOf) (maxL := 3) (ret := (some .int)) (own := RX9) (lv := [(0, .ref (aM 0)), (1, .int x1), (2, .int x2)]) (by decide) rfl rfl (Nat.le_of_ble_eq_true rfl) rfl ?_
  intro p e s m below meth c X hr hlk hK hN hsz hP hD hA hS hin ls hl
  generalize va_A (wbX9 K aM s0) sz = A at hD hA hS hN ⊢
  have hiX9 : ∀ w ∈ u_ws RX9 TX9 44, w ∈ (bw (Cond.code yX9_riderOf cX9_riderOf 3 (some .int))) := fun w h => bw_in (inlX9 w h)
  rw [fX9_riderOf] at hf
  refine lv_iload_n X.1 X.2.1 dX9_riderOf_0 rfl (lv_at hl 2 rfl) ?_
  refine lv_if_ne (tgt := 13) X.1 X.2.1 dX9_riderOf_1 (by decide) (fun c1 => ?_) (fun c1 => ?_)
  · have hf := ite_f hf c1
    refine lv_iload_n X.1 X.2.1 dX9_riderOf_13 rfl (lv_at hl 2 rfl) ?_
    refine lv_iconst (v := 1) X.1 X.2.1 dX9_riderOf_14 (by decide) ?_
    refine lv_icmp_ne (tgt := 27) X.1 X.2.1 dX9_riderOf_15 (by decide) (fun c2 => ?_) (fun c2 => ?_)
    · have hf := ite_f hf c2
      refine lv_aload_n X.1 X.2.1 dX9_riderOf_27 rfl (lv_at hl 0 rfl) ?_
      refine z_get X hK hP hiX9 0 rfl rfl 5 (by decide) (bw_in W6_20) rfl dX9_riderOf_28 ?_
      refine lv_iload_n X.1 X.2.1 dX9_riderOf_31 rfl (lv_at hl 1 rfl) ?_
      obtain ⟨hi4, hf⟩ := chk_e hf
      obtain ⟨v3, ev3, hf⟩ := stp_e hf
      refine z_iald X hK hP 5 rfl hi4 ev3 dX9_riderOf_32 ?_
      obtain rfl := z_inj1 hf
      exact z_iret X hr hlk hP hD hS dX9_riderOf_33
    · have hf := ite_t hf c2
      refine lv_aload_n X.1 X.2.1 dX9_riderOf_18 rfl (lv_at hl 0 rfl) ?_
      refine z_get X hK hP hiX9 0 rfl rfl 4 (by decide) (bw_in W6_19) rfl dX9_riderOf_19 ?_
      refine lv_iload_n X.1 X.2.1 dX9_riderOf_22 rfl (lv_at hl 1 rfl) ?_
      obtain ⟨hi6, hf⟩ := chk_e hf
      obtain ⟨v5, ev5, hf⟩ := stp_e hf
      refine z_iald X hK hP 4 rfl hi6 ev5 dX9_riderOf_23 ?_
      refine lv_goto (tgt := 33) X.1 X.2.1 dX9_riderOf_24 (by decide) ?_
      obtain rfl := z_inj1 hf
      exact z_iret X hr hlk hP hD hS dX9_riderOf_33
  · have hf := ite_t hf c1
    refine lv_aload_n X.1 X.2.1 dX9_riderOf_4 rfl (lv_at hl 0 rfl) ?_
    refine z_get X hK hP hiX9 0 rfl rfl 3 (by decide) (bw_in W6_18) rfl dX9_riderOf_5 ?_
    refine lv_iload_n X.1 X.2.1 dX9_riderOf_8 rfl (lv_at hl 1 rfl) ?_
    obtain ⟨hi8, hf⟩ := chk_e hf
    obtain ⟨v7, ev7, hf⟩ := stp_e hf
    refine z_iald X hK hP 3 rfl hi8 ev7 dX9_riderOf_9 ?_
    refine lv_goto (tgt := 33) X.1 X.2.1 dX9_riderOf_10 (by decide) ?_
    obtain rfl := z_inj1 hf
    exact z_iret X hr hlk hP hD hS dX9_riderOf_33
abbrev rmX9_riderDigest : Room := { frames := 9, cells := 0, slots := 0, locals := 205 }
set_option maxHeartbeats 4000000 in
set_option maxRecDepth 100000 in
theorem kX9_riderDigest (l : Launch) (D : va_G) (K : Nat → ClassId) (aM : Nat → Nat) (s0 : St) (sz : Nat) (x1 : Int64) (x2 : Int32) (q_ : Int64) (s_ : St) (hf : fX9_riderDigest s0 x1 x2 = some (q_, s_)) : Met l yX9_riderDigest (bw (Cond.code yX9_riderDigest cX9_riderDigest 7 (some .long))) rmX9_riderDigest (va_Pc [.ref (aM 0), .long x1, .int x2] (zB D K sz (wbX9 K aM s0))) (zQ (some (.long q_)) D (va_A (wbX9 K aM s0) sz) (wbX9 K aM s_)) 0 0 (va_A (wbX9 K aM s0) sz) := by
  refine z_of (cc := cX9_riderDigest) (maxL := 7) (ret := (some .long)) (own := RX9) (lv := [(0, .ref (aM 0)), (1, .long x1), (3, .int x2)]) (by decide) rfl rfl (Nat.le_of_ble_eq_true rfl) rfl ?_
  intro p e s m below meth c X hr hlk hK hN hsz hP hD hA hS hin ls hl
  generalize va_A (wbX9 K aM s0) sz = A at hD hA hS hN ⊢
  have L38_1 : ∀ (n : Nat), ∀ (n38_0 : Int32) (n38_1 : Int64) (n38_2 : Int32) (q38_M : St), fX9_riderDigest_38 n n38_0 n38_1 n38_2 q38_M = some ((q_, s_)) → ∀ (H : Heap) (locs : List Loc), va_P D vwCl (wbX9 K aM q38_M) H → va_D A (wbX9 K aM q38_M) → va_S A s.heap H locs → ∀ (ls : Array Slot), lv_has ls 7 [(0, .ref (aM 0)), (3, .int n38_0), (4, .long n38_1), (6, .int n38_2)] → W p l e rmX9_riderDigest s m ([.ref (aM 0), .long x1, .int x2] : List Value).toArray below meth c H locs 0 0 (MQ below (zQ (some (.long q_)) D A (wbX9 K aM s_)) ([.ref (aM 0), .long x1, .int x2] : List Value).toArray s 0 0 A) (F0 m 38 ls []) := by
    intro n
    induction n with
    | zero =>
      intro n38_0 n38_1 n38_2 q38_M hf
      rw [fX9_riderDigest_38] at hf
      cases hf
    | succ n ih =>
      intro n38_0 n38_1 n38_2 q38_M hf H locs hP hD hS ls hl
      rw [fX9_riderDigest_38] at hf
      refine lv_iload X.1 X.2.1 dX9_riderDigest_38 (lv_at hl 3 rfl) ?_
      refine lv_iconst (v := 3) X.1 X.2.1 dX9_riderDigest_40 (by decide) ?_
      refine lv_icmp_ge (tgt := 67) X.1 X.2.1 dX9_riderDigest_41 (by decide) (fun c2 => ?_) (fun c2 => ?_)
      · have hf := ite_t hf c2
        refine lv_ldc2 (v := 31) X.1 X.2.1 X.2.2.2.1 (X.2.2.2.2 _ (bw_in W44_13)) dX9_riderDigest_67 ?_
        refine lv_lload X.1 X.2.1 dX9_riderDigest_70 (lv_at hl 2 rfl) ?_
        refine lv_lmul X.1 X.2.1 dX9_riderDigest_72 ?_
        refine lv_aload_n X.1 X.2.1 dX9_riderDigest_73 rfl (lv_at hl 0 rfl) ?_
        refine lv_iload_n X.1 X.2.1 dX9_riderDigest_74 rfl (lv_at hl 1 rfl) ?_
        refine lv_iconst (v := 0) X.1 X.2.1 dX9_riderDigest_75 (by decide) ?_
        obtain ⟨r3, s4, hc5, hf⟩ := bd2_e hf
        refine z_V (n := 2) (As := [.int n38_0, .int 0]) (rest := [.long ((31 : Int64) * n38_1)]) (ci := 9) (q0 := 0) X hK hN (kX9_knowsOf l D K aM q38_M _ n38_0 0 r3 s4 hc5) (bw_V W26_11 W26_12 W26_13 W1_5 W26_14) rfl ⟨rfl, rfl⟩ (by decide +kernel) rfl ⟨Nat.le_of_ble_eq_true rfl, Nat.le_of_ble_eq_true rfl⟩ hP hD rfl rfl (zj_same hD hS hA) hS hl.1 rfl (Nat.le_of_ble_eq_true rfl) dX9_riderDigest_76 ⟨Nat.zero_le _, Nat.zero_le _⟩ rfl (fun H locs hP hD hS => ?_)
        refine lv_i2l X.1 X.2.1 dX9_riderDigest_79 rfl ?_
        refine lv_ladd X.1 X.2.1 dX9_riderDigest_80 ?_
        obtain ⟨w6, ew6, hf⟩ := stp_e hf
        refine z_topl ew6 ?_
        refine lv_lstore (lv' := [(4, .long w6), (0, .ref (aM 0)), (3, .int n38_0), (6, .int n38_2)]) X.1 X.2.1 dX9_riderDigest_81 hl (by decide) rfl (fun ls hl => ?_)
        refine lv_ldc2 (v := 31) X.1 X.2.1 X.2.2.2.1 (X.2.2.2.2 _ (bw_in W44_13)) dX9_riderDigest_83 ?_
        refine lv_lload X.1 X.2.1 dX9_riderDigest_86 (lv_at hl 0 rfl) ?_
        refine lv_lmul X.1 X.2.1 dX9_riderDigest_88 ?_
        refine lv_aload_n X.1 X.2.1 dX9_riderDigest_89 rfl (lv_at hl 1 rfl) ?_
        refine lv_iload_n X.1 X.2.1 dX9_riderDigest_90 rfl (lv_at hl 2 rfl) ?_
        refine lv_iconst (v := 1) X.1 X.2.1 dX9_riderDigest_91 (by decide) ?_
        obtain ⟨r7, s8, hc9, hf⟩ := bd2_e hf
        refine z_V (n := 2) (As := [.int n38_0, .int 1]) (rest := [.long ((31 : Int64) * w6)]) (ci := 9) (q0 := 0) X hK hN (kX9_knowsOf l D K aM s4 _ n38_0 1 r7 s8 hc9) (bw_V W26_11 W26_12 W26_13 W1_5 W26_14) rfl ⟨rfl, rfl⟩ (by decide +kernel) rfl ⟨Nat.le_of_ble_eq_true rfl, Nat.le_of_ble_eq_true rfl⟩ hP hD rfl rfl (zj_same hD hS hA) hS hl.1 rfl (Nat.le_of_ble_eq_true rfl) dX9_riderDigest_92 ⟨Nat.zero_le _, Nat.zero_le _⟩ rfl (fun H locs hP hD hS => ?_)
        refine lv_i2l X.1 X.2.1 dX9_riderDigest_95 rfl ?_
        refine lv_ladd X.1 X.2.1 dX9_riderDigest_96 ?_
        obtain ⟨rfl, rfl⟩ := z_inj2 hf
        exact z_lret X hr hlk hP hD hS dX9_riderDigest_97
      · have hf := ite_f hf c2
        refine lv_ldc2 (v := 31) X.1 X.2.1 X.2.2.2.1 (X.2.2.2.2 _ (bw_in W44_13)) dX9_riderDigest_44 ?_
        refine lv_lload X.1 X.2.1 dX9_riderDigest_47 (lv_at hl 2 rfl) ?_
        refine lv_lmul X.1 X.2.1 dX9_riderDigest_49 ?_
        refine lv_aload_n X.1 X.2.1 dX9_riderDigest_50 rfl (lv_at hl 0 rfl) ?_
        refine lv_iload_n X.1 X.2.1 dX9_riderDigest_51 rfl (lv_at hl 1 rfl) ?_
        refine lv_iload X.1 X.2.1 dX9_riderDigest_52 (lv_at hl 3 rfl) ?_
        obtain ⟨r10, s11, hc12, hf⟩ := bd2_e hf
        refine z_V (n := 2) (As := [.int n38_0, .int n38_2]) (rest := [.long ((31 : Int64) * n38_1)]) (ci := 9) (q0 := 0) X hK hN (kX9_ridesOf l D K aM q38_M _ n38_0 n38_2 r10 s11 hc12) (bw_V W23_15 W23_16 W23_17 W1_5 W23_18) rfl ⟨rfl, rfl⟩ (by decide +kernel) rfl ⟨Nat.le_of_ble_eq_true rfl, Nat.le_of_ble_eq_true rfl⟩ hP hD rfl rfl (zj_same hD hS hA) hS hl.1 rfl (Nat.le_of_ble_eq_true rfl) dX9_riderDigest_54 ⟨Nat.zero_le _, Nat.zero_le _⟩ rfl (fun H locs hP hD hS => ?_)
        refine lv_i2l X.1 X.2.1 dX9_riderDigest_57 rfl ?_
        refine lv_ladd X.1 X.2.1 dX9_riderDigest_58 ?_
        obtain ⟨w13, ew13, hf⟩ := stp_e hf
        refine z_topl ew13 ?_
        refine lv_lstore (lv' := [(4, .long w13), (0, .ref (aM 0)), (3, .int n38_0), (6, .int n38_2)]) X.1 X.2.1 dX9_riderDigest_59 hl (by decide) rfl (fun ls hl => ?_)
        obtain ⟨w14, ew14, hf⟩ := stp_e hf
        refine lv_iinc (v := w14) (lv' := [(6, .int w14), (4, .long w13), (0, .ref (aM 0)), (3, .int n38_0)]) X.1 X.2.1 dX9_riderDigest_61 hl (k := 3) rfl (by rw [ew14]; rfl) (by decide) rfl (fun ls hl => ?_)
        refine lv_goto (tgt := 38) X.1 X.2.1 dX9_riderDigest_64 (by decide) ?_
        exact ih _ _ _ _ hf _ _ hP hD hS _ (lv_sub hl [2, 3, 1, 0] rfl)
  have L6_0 : ∀ (n : Nat), ∀ (n6_0 : Int32) (n6_1 : Int64) (n6_2 : Int32) (q6_M : St), fX9_riderDigest_6 n n6_0 n6_1 n6_2 q6_M = some ((q_, s_)) → ∀ (H : Heap) (locs : List Loc), va_P D vwCl (wbX9 K aM q6_M) H → va_D A (wbX9 K aM q6_M) → va_S A s.heap H locs → ∀ (ls : Array Slot), lv_has ls 7 [(0, .ref (aM 0)), (3, .int n6_0), (4, .long n6_1), (6, .int n6_2)] → W p l e rmX9_riderDigest s m ([.ref (aM 0), .long x1, .int x2] : List Value).toArray below meth c H locs 0 0 (MQ below (zQ (some (.long q_)) D A (wbX9 K aM s_)) ([.ref (aM 0), .long x1, .int x2] : List Value).toArray s 0 0 A) (F0 m 6 ls []) := by
    intro n
    induction n with
    | zero =>
      intro n6_0 n6_1 n6_2 q6_M hf
      rw [fX9_riderDigest_6] at hf
      cases hf
    | succ n ih =>
      intro n6_0 n6_1 n6_2 q6_M hf H locs hP hD hS ls hl
      rw [fX9_riderDigest_6] at hf
      refine lv_iload X.1 X.2.1 dX9_riderDigest_6 (lv_at hl 3 rfl) ?_
      refine lv_iconst (v := 3) X.1 X.2.1 dX9_riderDigest_8 (by decide) ?_
      refine lv_icmp_ge (tgt := 35) X.1 X.2.1 dX9_riderDigest_9 (by decide) (fun c1 => ?_) (fun c1 => ?_)
      · have hf := ite_t hf c1
        refine lv_iconst (v := 0) X.1 X.2.1 dX9_riderDigest_35 (by decide) ?_
        refine lv_istore (lv' := [(6, .int 0), (0, .ref (aM 0)), (3, .int n6_0), (4, .long n6_1)]) X.1 X.2.1 dX9_riderDigest_36 hl (by decide) rfl (fun ls hl => ?_)
        exact L38_1  _ _ _ _ _ hf _ _ hP hD hS _ (lv_sub hl [1, 2, 3, 0] rfl)
      · have hf := ite_f hf c1
        refine lv_ldc2 (v := 31) X.1 X.2.1 X.2.2.2.1 (X.2.2.2.2 _ (bw_in W44_13)) dX9_riderDigest_12 ?_
        refine lv_lload X.1 X.2.1 dX9_riderDigest_15 (lv_at hl 2 rfl) ?_
        refine lv_lmul X.1 X.2.1 dX9_riderDigest_17 ?_
        refine lv_aload_n X.1 X.2.1 dX9_riderDigest_18 rfl (lv_at hl 0 rfl) ?_
        refine lv_iload_n X.1 X.2.1 dX9_riderDigest_19 rfl (lv_at hl 1 rfl) ?_
        refine lv_iload X.1 X.2.1 dX9_riderDigest_20 (lv_at hl 3 rfl) ?_
        obtain ⟨r15, hc16, hf⟩ := bd1_e hf
        refine z_V (n := 2) (As := [.int n6_0, .int n6_2]) (rest := [.long ((31 : Int64) * n6_1)]) (ci := 9) (q0 := 0) X hK hN (kX9_riderOf l D K aM q6_M _ n6_0 n6_2 r15 hc16) (bw_V W16_17 W16_18 W16_19 W1_5 W16_20) rfl ⟨rfl, rfl⟩ (by decide +kernel) rfl ⟨Nat.le_of_ble_eq_true rfl, Nat.le_of_ble_eq_true rfl⟩ hP hD rfl rfl (zj_same hD hS hA) hS hl.1 rfl (Nat.le_of_ble_eq_true rfl) dX9_riderDigest_22 ⟨Nat.zero_le _, Nat.zero_le _⟩ rfl (fun H locs hP hD hS => ?_)
        refine lv_i2l X.1 X.2.1 dX9_riderDigest_25 rfl ?_
        refine lv_ladd X.1 X.2.1 dX9_riderDigest_26 ?_
        obtain ⟨w17, ew17, hf⟩ := stp_e hf
        refine z_topl ew17 ?_
        refine lv_lstore (lv' := [(4, .long w17), (0, .ref (aM 0)), (3, .int n6_0), (6, .int n6_2)]) X.1 X.2.1 dX9_riderDigest_27 hl (by decide) rfl (fun ls hl => ?_)
        obtain ⟨w18, ew18, hf⟩ := stp_e hf
        refine lv_iinc (v := w18) (lv' := [(6, .int w18), (4, .long w17), (0, .ref (aM 0)), (3, .int n6_0)]) X.1 X.2.1 dX9_riderDigest_29 hl (k := 3) rfl (by rw [ew18]; rfl) (by decide) rfl (fun ls hl => ?_)
        refine lv_goto (tgt := 6) X.1 X.2.1 dX9_riderDigest_32 (by decide) ?_
        exact ih _ _ _ _ hf _ _ hP hD hS _ (lv_sub hl [2, 3, 1, 0] rfl)
  rw [fX9_riderDigest] at hf
  refine lv_lload_n X.1 X.2.1 dX9_riderDigest_0 rfl (lv_at hl 1 rfl) ?_
  refine lv_lstore (lv' := [(4, .long x1), (0, .ref (aM 0)), (1, .long x1), (3, .int x2)]) X.1 X.2.1 dX9_riderDigest_1 hl (by decide) rfl (fun ls hl => ?_)
  refine lv_iconst (v := 0) X.1 X.2.1 dX9_riderDigest_3 (by decide) ?_
  refine lv_istore (lv' := [(6, .int 0), (4, .long x1), (0, .ref (aM 0)), (1, .long x1), (3, .int x2)]) X.1 X.2.1 dX9_riderDigest_4 hl (by decide) rfl (fun ls hl => ?_)
  exact L6_0  _ _ _ _ _ hf _ _ hP hD hS _ (lv_sub hl [2, 4, 1, 0] rfl)
abbrev rmX9_digest : Room := { frames := 10, cells := 0, slots := 0, locals := 235 }
set_option maxHeartbeats 4000000 in
set_option maxRecDepth 100000 in
theorem kX9_digest (l : Launch) (D : va_G) (K : Nat → ClassId) (aM : Nat → Nat) (s0 : St) (sz : Nat)  (q_ : Int64) (s_ : St) (hf : fX9_digest s0 = some (q_, s_)) : Met l yX9_digest (bw (Cond.code yX9_digest cX9_digest 4 (some .long))) rmX9_digest (va_Pc [.ref (aM 0)] (zB D K sz (wbX9 K aM s0))) (zQ (some (.long q_)) D (va_A (wbX9 K aM s0) sz) (wbX9 K aM s_)) 0 0 (va_A (wbX9 K aM s0) sz) := by
  refine z_of (cc := cX9_digest) (maxL := 4) (ret := (some .long)) (own := RX9) (lv := [(0, .ref (aM 0))]) (by decide) rfl rfl (Nat.le_of_ble_eq_true rfl) rfl ?_
  intro p e s m below meth c X hr hlk hK hN hsz hP hD hA hS hin ls hl
  generalize va_A (wbX9 K aM s0) sz = A at hD hA hS hN ⊢
  have hiX9 : ∀ w ∈ u_ws RX9 TX9 44, w ∈ (bw (Cond.code yX9_digest cX9_digest 4 (some .long))) := fun w h => bw_in (inlX9 w h)
  have L139_4 : ∀ (n : Nat), ∀ (n139_0 : Int64) (n139_1 : Int32) (q139_M : St), fX9_digest_139 n n139_0 n139_1 q139_M = some ((q_, s_)) → ∀ (H : Heap) (locs : List Loc), va_P D vwCl (wbX9 K aM q139_M) H → va_D A (wbX9 K aM q139_M) → va_S A s.heap H locs → ∀ (ls : Array Slot), lv_has ls 4 [(0, .ref (aM 0)), (1, .long n139_0), (3, .int n139_1)] → W p l e rmX9_digest s m ([.ref (aM 0)] : List Value).toArray below meth c H locs 0 0 (MQ below (zQ (some (.long q_)) D A (wbX9 K aM s_)) ([.ref (aM 0)] : List Value).toArray s 0 0 A) (F0 m 139 ls []) := by
    intro n
    induction n with
    | zero =>
      intro n139_0 n139_1 q139_M hf
      rw [fX9_digest_139] at hf
      cases hf
    | succ n ih =>
      intro n139_0 n139_1 q139_M hf H locs hP hD hS ls hl
      rw [fX9_digest_139] at hf
      refine lv_iload_n X.1 X.2.1 dX9_digest_139 rfl (lv_at hl 2 rfl) ?_
      refine lv_aload_n X.1 X.2.1 dX9_digest_140 rfl (lv_at hl 0 rfl) ?_
      refine z_get X hK hP hiX9 0 rfl rfl 9 (by decide) (bw_in W11_6) rfl dX9_digest_141 ?_
      refine lv_icmp_ge (tgt := 167) X.1 X.2.1 dX9_digest_144 (by decide) (fun c5 => ?_) (fun c5 => ?_)
      · have hf := ite_t hf c5
        refine lv_aload_n X.1 X.2.1 dX9_digest_167 rfl (lv_at hl 0 rfl) ?_
        refine lv_lload_n X.1 X.2.1 dX9_digest_168 rfl (lv_at hl 1 rfl) ?_
        refine lv_iconst (v := 0) X.1 X.2.1 dX9_digest_169 (by decide) ?_
        obtain ⟨r6, s7, hc8, hf⟩ := bd2_e hf
        refine z_V (n := 2) (As := [.long n139_0, .int 0]) (rest := []) (ci := 9) (q0 := 0) X hK hN (kX9_stepsDigest l D K aM q139_M _ n139_0 0 r6 s7 hc8) (bw_V W44_19 W44_20 W44_21 W1_5 W44_22) rfl ⟨rfl, rfl⟩ (by decide +kernel) rfl ⟨Nat.le_of_ble_eq_true rfl, Nat.le_of_ble_eq_true rfl⟩ hP hD rfl rfl (zj_same hD hS hA) hS hl.1 rfl (Nat.le_of_ble_eq_true rfl) dX9_digest_170 ⟨Nat.zero_le _, Nat.zero_le _⟩ rfl (fun H locs hP hD hS => ?_)
        refine lv_lstore_n (lv' := [(1, .long r6), (0, .ref (aM 0)), (3, .int n139_1)]) X.1 X.2.1 dX9_digest_173 rfl hl (by decide) rfl (fun ls hl => ?_)
        refine lv_aload_n X.1 X.2.1 dX9_digest_174 rfl (lv_at hl 1 rfl) ?_
        refine lv_lload_n X.1 X.2.1 dX9_digest_175 rfl (lv_at hl 0 rfl) ?_
        refine lv_bipush (v := 9) X.1 X.2.1 dX9_digest_176 (by decide) ?_
        obtain ⟨r9, s10, hc11, hf⟩ := bd2_e hf
        refine z_V (n := 2) (As := [.long r6, .int 9]) (rest := []) (ci := 9) (q0 := 0) X hK hN (kX9_stepsDigest l D K aM s7 _ r6 9 r9 s10 hc11) (bw_V W44_19 W44_20 W44_21 W1_5 W44_22) rfl ⟨rfl, rfl⟩ (by decide +kernel) rfl ⟨Nat.le_of_ble_eq_true rfl, Nat.le_of_ble_eq_true rfl⟩ hP hD rfl rfl (zj_same hD hS hA) hS hl.1 rfl (Nat.le_of_ble_eq_true rfl) dX9_digest_178 ⟨Nat.zero_le _, Nat.zero_le _⟩ rfl (fun H locs hP hD hS => ?_)
        refine lv_lstore_n (lv' := [(1, .long r9), (0, .ref (aM 0)), (3, .int n139_1)]) X.1 X.2.1 dX9_digest_181 rfl hl (by decide) rfl (fun ls hl => ?_)
        refine lv_aload_n X.1 X.2.1 dX9_digest_182 rfl (lv_at hl 1 rfl) ?_
        refine lv_lload_n X.1 X.2.1 dX9_digest_183 rfl (lv_at hl 0 rfl) ?_
        refine lv_bipush (v := 20) X.1 X.2.1 dX9_digest_184 (by decide) ?_
        obtain ⟨r12, s13, hc14, hf⟩ := bd2_e hf
        refine z_V (n := 2) (As := [.long r9, .int 20]) (rest := []) (ci := 9) (q0 := 0) X hK hN (kX9_stepsDigest l D K aM s10 _ r9 20 r12 s13 hc14) (bw_V W44_19 W44_20 W44_21 W1_5 W44_22) rfl ⟨rfl, rfl⟩ (by decide +kernel) rfl ⟨Nat.le_of_ble_eq_true rfl, Nat.le_of_ble_eq_true rfl⟩ hP hD rfl rfl (zj_same hD hS hA) hS hl.1 rfl (Nat.le_of_ble_eq_true rfl) dX9_digest_186 ⟨Nat.zero_le _, Nat.zero_le _⟩ rfl (fun H locs hP hD hS => ?_)
        refine lv_lstore_n (lv' := [(1, .long r12), (0, .ref (aM 0)), (3, .int n139_1)]) X.1 X.2.1 dX9_digest_189 rfl hl (by decide) rfl (fun ls hl => ?_)
        refine lv_aload_n X.1 X.2.1 dX9_digest_190 rfl (lv_at hl 1 rfl) ?_
        refine lv_lload_n X.1 X.2.1 dX9_digest_191 rfl (lv_at hl 0 rfl) ?_
        refine lv_bipush (v := 60) X.1 X.2.1 dX9_digest_192 (by decide) ?_
        obtain ⟨r15, s16, hc17, hf⟩ := bd2_e hf
        refine z_V (n := 2) (As := [.long r12, .int 60]) (rest := []) (ci := 9) (q0 := 0) X hK hN (kX9_stepsDigest l D K aM s13 _ r12 60 r15 s16 hc17) (bw_V W44_19 W44_20 W44_21 W1_5 W44_22) rfl ⟨rfl, rfl⟩ (by decide +kernel) rfl ⟨Nat.le_of_ble_eq_true rfl, Nat.le_of_ble_eq_true rfl⟩ hP hD rfl rfl (zj_same hD hS hA) hS hl.1 rfl (Nat.le_of_ble_eq_true rfl) dX9_digest_194 ⟨Nat.zero_le _, Nat.zero_le _⟩ rfl (fun H locs hP hD hS => ?_)
        refine lv_lstore_n (lv' := [(1, .long r15), (0, .ref (aM 0)), (3, .int n139_1)]) X.1 X.2.1 dX9_digest_197 rfl hl (by decide) rfl (fun ls hl => ?_)
        refine lv_ldc2 (v := 31) X.1 X.2.1 X.2.2.2.1 (X.2.2.2.2 _ (bw_in W44_13)) dX9_digest_198 ?_
        refine lv_lload_n X.1 X.2.1 dX9_digest_201 rfl (lv_at hl 0 rfl) ?_
        refine lv_lmul X.1 X.2.1 dX9_digest_202 ?_
        refine lv_aload_n X.1 X.2.1 dX9_digest_203 rfl (lv_at hl 1 rfl) ?_
        obtain ⟨r18, s19, hc20, hf⟩ := bd2_e hf
        refine z_V (n := 0) (As := []) (rest := [.long ((31 : Int64) * r15)]) (ci := 9) (q0 := 0) X hK hN (kX9_endsNow l D K aM s16 _ r18 s19 hc20) (bw_V W22_15 W22_16 W22_17 W1_5 W22_18) rfl ⟨rfl, rfl⟩ (by decide +kernel) rfl ⟨Nat.le_of_ble_eq_true rfl, Nat.le_of_ble_eq_true rfl⟩ hP hD rfl rfl (zj_same hD hS hA) hS hl.1 rfl (Nat.le_of_ble_eq_true rfl) dX9_digest_204 ⟨Nat.zero_le _, Nat.zero_le _⟩ rfl (fun H locs hP hD hS => ?_)
        refine lv_i2l X.1 X.2.1 dX9_digest_207 rfl ?_
        refine lv_ladd X.1 X.2.1 dX9_digest_208 ?_
        obtain ⟨w21, ew21, hf⟩ := stp_e hf
        refine z_topl ew21 ?_
        refine lv_lstore_n (lv' := [(1, .long w21), (0, .ref (aM 0)), (3, .int n139_1)]) X.1 X.2.1 dX9_digest_209 rfl hl (by decide) rfl (fun ls hl => ?_)
        refine lv_ldc2 (v := 31) X.1 X.2.1 X.2.2.2.1 (X.2.2.2.2 _ (bw_in W44_13)) dX9_digest_210 ?_
        refine lv_lload_n X.1 X.2.1 dX9_digest_213 rfl (lv_at hl 0 rfl) ?_
        refine lv_lmul X.1 X.2.1 dX9_digest_214 ?_
        refine lv_aload_n X.1 X.2.1 dX9_digest_215 rfl (lv_at hl 1 rfl) ?_
        refine lv_iconst (v := 0) X.1 X.2.1 dX9_digest_216 (by decide) ?_
        obtain ⟨r22, s23, hc24, hf⟩ := bd2_e hf
        refine z_V (n := 1) (As := [.int 0]) (rest := [.long ((31 : Int64) * w21)]) (ci := 9) (q0 := 0) X hK hN (kX9_fullOf l D K aM s19 _ 0 r22 s23 hc24) (bw_V W24_15 W24_16 W24_17 W1_5 W24_18) rfl ⟨rfl, rfl⟩ (by decide +kernel) rfl ⟨Nat.le_of_ble_eq_true rfl, Nat.le_of_ble_eq_true rfl⟩ hP hD rfl rfl (zj_same hD hS hA) hS hl.1 rfl (Nat.le_of_ble_eq_true rfl) dX9_digest_217 ⟨Nat.zero_le _, Nat.zero_le _⟩ rfl (fun H locs hP hD hS => ?_)
        refine lv_i2l X.1 X.2.1 dX9_digest_220 rfl ?_
        refine lv_ladd X.1 X.2.1 dX9_digest_221 ?_
        obtain ⟨w25, ew25, hf⟩ := stp_e hf
        refine z_topl ew25 ?_
        refine lv_lstore_n (lv' := [(1, .long w25), (0, .ref (aM 0)), (3, .int n139_1)]) X.1 X.2.1 dX9_digest_222 rfl hl (by decide) rfl (fun ls hl => ?_)
        refine lv_ldc2 (v := 31) X.1 X.2.1 X.2.2.2.1 (X.2.2.2.2 _ (bw_in W44_13)) dX9_digest_223 ?_
        refine lv_lload_n X.1 X.2.1 dX9_digest_226 rfl (lv_at hl 0 rfl) ?_
        refine lv_lmul X.1 X.2.1 dX9_digest_227 ?_
        refine lv_aload_n X.1 X.2.1 dX9_digest_228 rfl (lv_at hl 1 rfl) ?_
        refine lv_iconst (v := 1) X.1 X.2.1 dX9_digest_229 (by decide) ?_
        obtain ⟨r26, s27, hc28, hf⟩ := bd2_e hf
        refine z_V (n := 1) (As := [.int 1]) (rest := [.long ((31 : Int64) * w25)]) (ci := 9) (q0 := 0) X hK hN (kX9_fullOf l D K aM s23 _ 1 r26 s27 hc28) (bw_V W24_15 W24_16 W24_17 W1_5 W24_18) rfl ⟨rfl, rfl⟩ (by decide +kernel) rfl ⟨Nat.le_of_ble_eq_true rfl, Nat.le_of_ble_eq_true rfl⟩ hP hD rfl rfl (zj_same hD hS hA) hS hl.1 rfl (Nat.le_of_ble_eq_true rfl) dX9_digest_230 ⟨Nat.zero_le _, Nat.zero_le _⟩ rfl (fun H locs hP hD hS => ?_)
        refine lv_i2l X.1 X.2.1 dX9_digest_233 rfl ?_
        refine lv_ladd X.1 X.2.1 dX9_digest_234 ?_
        obtain ⟨w29, ew29, hf⟩ := stp_e hf
        refine z_topl ew29 ?_
        refine lv_lstore_n (lv' := [(1, .long w29), (0, .ref (aM 0)), (3, .int n139_1)]) X.1 X.2.1 dX9_digest_235 rfl hl (by decide) rfl (fun ls hl => ?_)
        refine lv_aload_n X.1 X.2.1 dX9_digest_236 rfl (lv_at hl 1 rfl) ?_
        obtain ⟨r30, s31, hc32, hf⟩ := bd2_e hf
        refine z_V (n := 0) (As := []) (rest := []) (ci := 9) (q0 := 0) X hK hN (kX9_moreBy l D K aM s27 _ r30 s31 hc32) (bw_V W28_10 W28_11 W28_12 W1_5 W28_13) rfl ⟨rfl, rfl⟩ (by decide +kernel) rfl ⟨Nat.le_of_ble_eq_true rfl, Nat.le_of_ble_eq_true rfl⟩ hP hD rfl rfl (zj_same hD hS hA) hS hl.1 rfl (Nat.le_of_ble_eq_true rfl) dX9_digest_237 ⟨Nat.zero_le _, Nat.zero_le _⟩ rfl (fun H locs hP hD hS => ?_)
        refine lv_istore_n (lv' := [(3, .int r30), (1, .long w29), (0, .ref (aM 0))]) X.1 X.2.1 dX9_digest_240 rfl hl (by decide) rfl (fun ls hl => ?_)
        refine lv_ldc2 (v := 31) X.1 X.2.1 X.2.2.2.1 (X.2.2.2.2 _ (bw_in W44_13)) dX9_digest_241 ?_
        refine lv_lload_n X.1 X.2.1 dX9_digest_244 rfl (lv_at hl 1 rfl) ?_
        refine lv_lmul X.1 X.2.1 dX9_digest_245 ?_
        refine lv_iload_n X.1 X.2.1 dX9_digest_246 rfl (lv_at hl 0 rfl) ?_
        refine lv_i2l X.1 X.2.1 dX9_digest_247 rfl ?_
        refine lv_ladd X.1 X.2.1 dX9_digest_248 ?_
        obtain ⟨w33, ew33, hf⟩ := stp_e hf
        refine z_topl ew33 ?_
        refine lv_lstore_n (lv' := [(1, .long w33), (3, .int r30), (0, .ref (aM 0))]) X.1 X.2.1 dX9_digest_249 rfl hl (by decide) rfl (fun ls hl => ?_)
        refine lv_ldc2 (v := 31) X.1 X.2.1 X.2.2.2.1 (X.2.2.2.2 _ (bw_in W44_13)) dX9_digest_250 ?_
        refine lv_lload_n X.1 X.2.1 dX9_digest_253 rfl (lv_at hl 0 rfl) ?_
        refine lv_lmul X.1 X.2.1 dX9_digest_254 ?_
        refine lv_aload_n X.1 X.2.1 dX9_digest_255 rfl (lv_at hl 2 rfl) ?_
        refine lv_iload_n X.1 X.2.1 dX9_digest_256 rfl (lv_at hl 1 rfl) ?_
        refine lv_iconst (v := 0) X.1 X.2.1 dX9_digest_257 (by decide) ?_
        obtain ⟨r34, hc35, hf⟩ := bd1_e hf
        refine z_V (n := 2) (As := [.int r30, .int 0]) (rest := [.long ((31 : Int64) * w33)]) (ci := 9) (q0 := 0) X hK hN (kX9_ofRow l D K aM s31 _ r30 0 r34 hc35) (bw_V W28_18 W28_19 W28_20 W1_5 W28_21) rfl ⟨rfl, rfl⟩ (by decide +kernel) rfl ⟨Nat.le_of_ble_eq_true rfl, Nat.le_of_ble_eq_true rfl⟩ hP hD rfl rfl (zj_same hD hS hA) hS hl.1 rfl (Nat.le_of_ble_eq_true rfl) dX9_digest_258 ⟨Nat.zero_le _, Nat.zero_le _⟩ rfl (fun H locs hP hD hS => ?_)
        refine lv_i2l X.1 X.2.1 dX9_digest_261 rfl ?_
        refine lv_ladd X.1 X.2.1 dX9_digest_262 ?_
        obtain ⟨w36, ew36, hf⟩ := stp_e hf
        refine z_topl ew36 ?_
        refine lv_lstore_n (lv' := [(1, .long w36), (3, .int r30), (0, .ref (aM 0))]) X.1 X.2.1 dX9_digest_263 rfl hl (by decide) rfl (fun ls hl => ?_)
        refine lv_ldc2 (v := 31) X.1 X.2.1 X.2.2.2.1 (X.2.2.2.2 _ (bw_in W44_13)) dX9_digest_264 ?_
        refine lv_lload_n X.1 X.2.1 dX9_digest_267 rfl (lv_at hl 0 rfl) ?_
        refine lv_lmul X.1 X.2.1 dX9_digest_268 ?_
        refine lv_aload_n X.1 X.2.1 dX9_digest_269 rfl (lv_at hl 2 rfl) ?_
        obtain ⟨r37, s38, hc39, hf⟩ := bd2_e hf
        refine z_V (n := 0) (As := []) (rest := [.long ((31 : Int64) * w36)]) (ci := 9) (q0 := 0) X hK hN (kX9_neverNow l D K aM s31 _ r37 s38 hc39) (bw_V W33_11 W33_12 W33_13 W1_5 W33_14) rfl ⟨rfl, rfl⟩ (by decide +kernel) rfl ⟨Nat.le_of_ble_eq_true rfl, Nat.le_of_ble_eq_true rfl⟩ hP hD rfl rfl (zj_same hD hS hA) hS hl.1 rfl (Nat.le_of_ble_eq_true rfl) dX9_digest_270 ⟨Nat.zero_le _, Nat.zero_le _⟩ rfl (fun H locs hP hD hS => ?_)
        refine lv_i2l X.1 X.2.1 dX9_digest_273 rfl ?_
        refine lv_ladd X.1 X.2.1 dX9_digest_274 ?_
        obtain ⟨w40, ew40, hf⟩ := stp_e hf
        refine z_topl ew40 ?_
        refine lv_lstore_n (lv' := [(1, .long w40), (3, .int r30), (0, .ref (aM 0))]) X.1 X.2.1 dX9_digest_275 rfl hl (by decide) rfl (fun ls hl => ?_)
        refine lv_ldc2 (v := 31) X.1 X.2.1 X.2.2.2.1 (X.2.2.2.2 _ (bw_in W44_13)) dX9_digest_276 ?_
        refine lv_lload_n X.1 X.2.1 dX9_digest_279 rfl (lv_at hl 0 rfl) ?_
        refine lv_lmul X.1 X.2.1 dX9_digest_280 ?_
        refine lv_aload_n X.1 X.2.1 dX9_digest_281 rfl (lv_at hl 2 rfl) ?_
        obtain ⟨r41, s42, hc43, hf⟩ := bd2_e hf
        refine z_V (n := 0) (As := []) (rest := [.long ((31 : Int64) * w40)]) (ci := 9) (q0 := 0) X hK hN (kX9_weighNow l D K aM s38 _ r41 s42 hc43) (bw_V W35_19 W35_20 W35_21 W1_5 W35_22) rfl ⟨rfl, rfl⟩ (by decide +kernel) rfl ⟨Nat.le_of_ble_eq_true rfl, Nat.le_of_ble_eq_true rfl⟩ hP hD rfl rfl (zj_same hD hS hA) hS hl.1 rfl (Nat.le_of_ble_eq_true rfl) dX9_digest_282 ⟨Nat.zero_le _, Nat.zero_le _⟩ rfl (fun H locs hP hD hS => ?_)
        refine lv_i2l X.1 X.2.1 dX9_digest_285 rfl ?_
        refine lv_ladd X.1 X.2.1 dX9_digest_286 ?_
        obtain ⟨w44, ew44, hf⟩ := stp_e hf
        refine z_topl ew44 ?_
        refine lv_lstore_n (lv' := [(1, .long w44), (3, .int r30), (0, .ref (aM 0))]) X.1 X.2.1 dX9_digest_287 rfl hl (by decide) rfl (fun ls hl => ?_)
        refine lv_ldc2 (v := 31) X.1 X.2.1 X.2.2.2.1 (X.2.2.2.2 _ (bw_in W44_13)) dX9_digest_288 ?_
        refine lv_lload_n X.1 X.2.1 dX9_digest_291 rfl (lv_at hl 0 rfl) ?_
        refine lv_lmul X.1 X.2.1 dX9_digest_292 ?_
        refine lv_aload_n X.1 X.2.1 dX9_digest_293 rfl (lv_at hl 2 rfl) ?_
        refine lv_iconst (v := 0) X.1 X.2.1 dX9_digest_294 (by decide) ?_
        refine lv_iconst (v := 0) X.1 X.2.1 dX9_digest_295 (by decide) ?_
        refine lv_iconst (v := -1) X.1 X.2.1 dX9_digest_296 (by decide) ?_
        obtain ⟨r45, s46, hc47, hf⟩ := bd2_e hf
        refine z_V (n := 3) (As := [.int 0, .int 0, .int ((-1))]) (rest := [.long ((31 : Int64) * w44)]) (ci := 9) (q0 := 0) X hK hN (kX9_leave l D K aM s42 _ 0 0 ((-1)) r45 s46 hc47) (bw_V W44_23 W29_17 W29_18 W1_5 W29_19) rfl ⟨rfl, rfl⟩ (by decide +kernel) rfl ⟨Nat.le_of_ble_eq_true rfl, Nat.le_of_ble_eq_true rfl⟩ hP hD rfl rfl (zj_same hD hS hA) hS hl.1 rfl (Nat.le_of_ble_eq_true rfl) dX9_digest_297 ⟨Nat.zero_le _, Nat.zero_le _⟩ rfl (fun H locs hP hD hS => ?_)
        refine lv_i2l X.1 X.2.1 dX9_digest_300 rfl ?_
        refine lv_ladd X.1 X.2.1 dX9_digest_301 ?_
        obtain ⟨w48, ew48, hf⟩ := stp_e hf
        refine z_topl ew48 ?_
        refine lv_lstore_n (lv' := [(1, .long w48), (3, .int r30), (0, .ref (aM 0))]) X.1 X.2.1 dX9_digest_302 rfl hl (by decide) rfl (fun ls hl => ?_)
        refine lv_ldc2 (v := 31) X.1 X.2.1 X.2.2.2.1 (X.2.2.2.2 _ (bw_in W44_13)) dX9_digest_303 ?_
        refine lv_lload_n X.1 X.2.1 dX9_digest_306 rfl (lv_at hl 0 rfl) ?_
        refine lv_lmul X.1 X.2.1 dX9_digest_307 ?_
        refine lv_aload_n X.1 X.2.1 dX9_digest_308 rfl (lv_at hl 2 rfl) ?_
        refine lv_iconst (v := 0) X.1 X.2.1 dX9_digest_309 (by decide) ?_
        refine lv_iconst (v := 0) X.1 X.2.1 dX9_digest_310 (by decide) ?_
        refine lv_iconst (v := 0) X.1 X.2.1 dX9_digest_311 (by decide) ?_
        obtain ⟨r49, s50, hc51, hf⟩ := bd2_e hf
        refine z_V (n := 3) (As := [.int 0, .int 0, .int 0]) (rest := [.long ((31 : Int64) * w48)]) (ci := 9) (q0 := 0) X hK hN (kX9_leave l D K aM s46 _ 0 0 0 r49 s50 hc51) (bw_V W44_23 W29_17 W29_18 W1_5 W29_19) rfl ⟨rfl, rfl⟩ (by decide +kernel) rfl ⟨Nat.le_of_ble_eq_true rfl, Nat.le_of_ble_eq_true rfl⟩ hP hD rfl rfl (zj_same hD hS hA) hS hl.1 rfl (Nat.le_of_ble_eq_true rfl) dX9_digest_312 ⟨Nat.zero_le _, Nat.zero_le _⟩ rfl (fun H locs hP hD hS => ?_)
        refine lv_i2l X.1 X.2.1 dX9_digest_315 rfl ?_
        refine lv_ladd X.1 X.2.1 dX9_digest_316 ?_
        obtain ⟨w52, ew52, hf⟩ := stp_e hf
        refine z_topl ew52 ?_
        refine lv_lstore_n (lv' := [(1, .long w52), (3, .int r30), (0, .ref (aM 0))]) X.1 X.2.1 dX9_digest_317 rfl hl (by decide) rfl (fun ls hl => ?_)
        refine lv_ldc2 (v := 31) X.1 X.2.1 X.2.2.2.1 (X.2.2.2.2 _ (bw_in W44_13)) dX9_digest_318 ?_
        refine lv_lload_n X.1 X.2.1 dX9_digest_321 rfl (lv_at hl 0 rfl) ?_
        refine lv_lmul X.1 X.2.1 dX9_digest_322 ?_
        refine lv_aload_n X.1 X.2.1 dX9_digest_323 rfl (lv_at hl 2 rfl) ?_
        refine lv_iconst (v := 5) X.1 X.2.1 dX9_digest_324 (by decide) ?_
        refine lv_iconst (v := 0) X.1 X.2.1 dX9_digest_325 (by decide) ?_
        refine lv_bipush (v := 20) X.1 X.2.1 dX9_digest_326 (by decide) ?_
        refine lv_iconst (v := 0) X.1 X.2.1 dX9_digest_328 (by decide) ?_
        obtain ⟨r53, s54, hc55, hf⟩ := bd2_e hf
        refine z_V (n := 4) (As := [.int 5, .int 0, .int 20, .int 0]) (rest := [.long ((31 : Int64) * w52)]) (ci := 9) (q0 := 0) X hK hN (kX9_maybe l D K aM s50 _ 5 0 20 0 r53 s54 hc55) (bw_V W45_0 W37_5 W37_6 W1_5 W37_7) rfl ⟨rfl, rfl⟩ (by decide +kernel) rfl ⟨Nat.le_of_ble_eq_true rfl, Nat.le_of_ble_eq_true rfl⟩ hP hD rfl rfl (zj_same hD hS hA) hS hl.1 rfl (Nat.le_of_ble_eq_true rfl) dX9_digest_329 ⟨Nat.zero_le _, Nat.zero_le _⟩ rfl (fun H locs hP hD hS => ?_)
        refine lv_ladd X.1 X.2.1 dX9_digest_332 ?_
        obtain ⟨w56, ew56, hf⟩ := stp_e hf
        refine z_topl ew56 ?_
        refine lv_lstore_n (lv' := [(1, .long w56), (3, .int r30), (0, .ref (aM 0))]) X.1 X.2.1 dX9_digest_333 rfl hl (by decide) rfl (fun ls hl => ?_)
        refine lv_ldc2 (v := 31) X.1 X.2.1 X.2.2.2.1 (X.2.2.2.2 _ (bw_in W44_13)) dX9_digest_334 ?_
        refine lv_lload_n X.1 X.2.1 dX9_digest_337 rfl (lv_at hl 0 rfl) ?_
        refine lv_lmul X.1 X.2.1 dX9_digest_338 ?_
        refine lv_aload_n X.1 X.2.1 dX9_digest_339 rfl (lv_at hl 2 rfl) ?_
        refine lv_iconst (v := 5) X.1 X.2.1 dX9_digest_340 (by decide) ?_
        refine lv_iconst (v := 0) X.1 X.2.1 dX9_digest_341 (by decide) ?_
        refine lv_bipush (v := 20) X.1 X.2.1 dX9_digest_342 (by decide) ?_
        refine lv_iconst (v := 1) X.1 X.2.1 dX9_digest_344 (by decide) ?_
        obtain ⟨r57, s58, hc59, hf⟩ := bd2_e hf
        refine z_V (n := 4) (As := [.int 5, .int 0, .int 20, .int 1]) (rest := [.long ((31 : Int64) * w56)]) (ci := 9) (q0 := 0) X hK hN (kX9_maybe l D K aM s54 _ 5 0 20 1 r57 s58 hc59) (bw_V W45_0 W37_5 W37_6 W1_5 W37_7) rfl ⟨rfl, rfl⟩ (by decide +kernel) rfl ⟨Nat.le_of_ble_eq_true rfl, Nat.le_of_ble_eq_true rfl⟩ hP hD rfl rfl (zj_same hD hS hA) hS hl.1 rfl (Nat.le_of_ble_eq_true rfl) dX9_digest_345 ⟨Nat.zero_le _, Nat.zero_le _⟩ rfl (fun H locs hP hD hS => ?_)
        refine lv_ladd X.1 X.2.1 dX9_digest_348 ?_
        obtain ⟨w60, ew60, hf⟩ := stp_e hf
        refine z_topl ew60 ?_
        refine lv_lstore_n (lv' := [(1, .long w60), (3, .int r30), (0, .ref (aM 0))]) X.1 X.2.1 dX9_digest_349 rfl hl (by decide) rfl (fun ls hl => ?_)
        refine lv_ldc2 (v := 31) X.1 X.2.1 X.2.2.2.1 (X.2.2.2.2 _ (bw_in W44_13)) dX9_digest_350 ?_
        refine lv_lload_n X.1 X.2.1 dX9_digest_353 rfl (lv_at hl 0 rfl) ?_
        refine lv_lmul X.1 X.2.1 dX9_digest_354 ?_
        refine lv_aload_n X.1 X.2.1 dX9_digest_355 rfl (lv_at hl 2 rfl) ?_
        refine lv_bipush (v := 7) X.1 X.2.1 dX9_digest_356 (by decide) ?_
        refine lv_bipush (v := 12) X.1 X.2.1 dX9_digest_358 (by decide) ?_
        refine lv_iconst (v := 0) X.1 X.2.1 dX9_digest_360 (by decide) ?_
        obtain ⟨r61, s62, hc63, hf⟩ := bd2_e hf
        refine z_V (n := 3) (As := [.int 7, .int 12, .int 0]) (rest := [.long ((31 : Int64) * w60)]) (ci := 9) (q0 := 0) X hK hN (kX9_dayOf l D K aM s58 _ 7 12 0 r61 s62 hc63) (bw_V W38_6 W38_7 W38_8 W1_5 W38_9) rfl ⟨rfl, rfl⟩ (by decide +kernel) rfl ⟨Nat.le_of_ble_eq_true rfl, Nat.le_of_ble_eq_true rfl⟩ hP hD rfl rfl (zj_same hD hS hA) hS hl.1 rfl (Nat.le_of_ble_eq_true rfl) dX9_digest_361 ⟨Nat.zero_le _, Nat.zero_le _⟩ rfl (fun H locs hP hD hS => ?_)
        refine lv_i2l X.1 X.2.1 dX9_digest_364 rfl ?_
        refine lv_ladd X.1 X.2.1 dX9_digest_365 ?_
        obtain ⟨w64, ew64, hf⟩ := stp_e hf
        refine z_topl ew64 ?_
        refine lv_lstore_n (lv' := [(1, .long w64), (3, .int r30), (0, .ref (aM 0))]) X.1 X.2.1 dX9_digest_366 rfl hl (by decide) rfl (fun ls hl => ?_)
        refine lv_ldc2 (v := 31) X.1 X.2.1 X.2.2.2.1 (X.2.2.2.2 _ (bw_in W44_13)) dX9_digest_367 ?_
        refine lv_lload_n X.1 X.2.1 dX9_digest_370 rfl (lv_at hl 0 rfl) ?_
        refine lv_lmul X.1 X.2.1 dX9_digest_371 ?_
        refine lv_aload_n X.1 X.2.1 dX9_digest_372 rfl (lv_at hl 2 rfl) ?_
        refine lv_bipush (v := 7) X.1 X.2.1 dX9_digest_373 (by decide) ?_
        refine lv_bipush (v := 12) X.1 X.2.1 dX9_digest_375 (by decide) ?_
        refine lv_iconst (v := 1) X.1 X.2.1 dX9_digest_377 (by decide) ?_
        obtain ⟨r65, s66, hc67, hf⟩ := bd2_e hf
        refine z_V (n := 3) (As := [.int 7, .int 12, .int 1]) (rest := [.long ((31 : Int64) * w64)]) (ci := 9) (q0 := 0) X hK hN (kX9_dayOf l D K aM s62 _ 7 12 1 r65 s66 hc67) (bw_V W38_6 W38_7 W38_8 W1_5 W38_9) rfl ⟨rfl, rfl⟩ (by decide +kernel) rfl ⟨Nat.le_of_ble_eq_true rfl, Nat.le_of_ble_eq_true rfl⟩ hP hD rfl rfl (zj_same hD hS hA) hS hl.1 rfl (Nat.le_of_ble_eq_true rfl) dX9_digest_378 ⟨Nat.zero_le _, Nat.zero_le _⟩ rfl (fun H locs hP hD hS => ?_)
        refine lv_i2l X.1 X.2.1 dX9_digest_381 rfl ?_
        refine lv_ladd X.1 X.2.1 dX9_digest_382 ?_
        obtain ⟨rfl, rfl⟩ := z_inj2 hf
        exact z_lret X hr hlk hP hD hS dX9_digest_383
      · have hf := ite_f hf c5
        refine lv_ldc2 (v := 31) X.1 X.2.1 X.2.2.2.1 (X.2.2.2.2 _ (bw_in W44_13)) dX9_digest_147 ?_
        refine lv_lload_n X.1 X.2.1 dX9_digest_150 rfl (lv_at hl 1 rfl) ?_
        refine lv_lmul X.1 X.2.1 dX9_digest_151 ?_
        refine lv_aload_n X.1 X.2.1 dX9_digest_152 rfl (lv_at hl 0 rfl) ?_
        refine z_get X hK hP hiX9 0 rfl rfl 10 (by decide) (bw_in W6_23) rfl dX9_digest_153 ?_
        refine lv_iload_n X.1 X.2.1 dX9_digest_156 rfl (lv_at hl 2 rfl) ?_
        obtain ⟨hi69, hf⟩ := chk_e hf
        obtain ⟨v68, ev68, hf⟩ := stp_e hf
        refine z_iald X hK hP 8 rfl hi69 ev68 dX9_digest_157 ?_
        refine lv_i2l X.1 X.2.1 dX9_digest_158 rfl ?_
        refine lv_ladd X.1 X.2.1 dX9_digest_159 ?_
        obtain ⟨w70, ew70, hf⟩ := stp_e hf
        refine z_topl ew70 ?_
        refine lv_lstore_n (lv' := [(1, .long w70), (0, .ref (aM 0)), (3, .int n139_1)]) X.1 X.2.1 dX9_digest_160 rfl hl (by decide) rfl (fun ls hl => ?_)
        obtain ⟨w71, ew71, hf⟩ := stp_e hf
        refine lv_iinc (v := w71) (lv' := [(3, .int w71), (1, .long w70), (0, .ref (aM 0))]) X.1 X.2.1 dX9_digest_161 hl (k := 2) rfl (by rw [ew71]; rfl) (by decide) rfl (fun ls hl => ?_)
        refine lv_goto (tgt := 139) X.1 X.2.1 dX9_digest_164 (by decide) ?_
        exact ih _ _ _ hf _ _ hP hD hS _ (lv_sub hl [2, 1, 0] rfl)
  have L82_3 : ∀ (n : Nat), ∀ (n82_0 : Int64) (n82_1 : Int32) (q82_M : St), fX9_digest_82 n n82_0 n82_1 q82_M = some ((q_, s_)) → ∀ (H : Heap) (locs : List Loc), va_P D vwCl (wbX9 K aM q82_M) H → va_D A (wbX9 K aM q82_M) → va_S A s.heap H locs → ∀ (ls : Array Slot), lv_has ls 4 [(0, .ref (aM 0)), (1, .long n82_0), (3, .int n82_1)] → W p l e rmX9_digest s m ([.ref (aM 0)] : List Value).toArray below meth c H locs 0 0 (MQ below (zQ (some (.long q_)) D A (wbX9 K aM s_)) ([.ref (aM 0)] : List Value).toArray s 0 0 A) (F0 m 82 ls []) := by
    intro n
    induction n with
    | zero =>
      intro n82_0 n82_1 q82_M hf
      rw [fX9_digest_82] at hf
      cases hf
    | succ n ih =>
      intro n82_0 n82_1 q82_M hf H locs hP hD hS ls hl
      rw [fX9_digest_82] at hf
      refine lv_iload_n X.1 X.2.1 dX9_digest_82 rfl (lv_at hl 2 rfl) ?_
      refine lv_aload_n X.1 X.2.1 dX9_digest_83 rfl (lv_at hl 0 rfl) ?_
      refine z_get X hK hP hiX9 0 rfl rfl 6 (by decide) (bw_in W10_13) rfl dX9_digest_84 ?_
      refine lv_icmp_ge (tgt := 137) X.1 X.2.1 dX9_digest_87 (by decide) (fun c4 => ?_) (fun c4 => ?_)
      · have hf := ite_t hf c4
        refine lv_iconst (v := 0) X.1 X.2.1 dX9_digest_137 (by decide) ?_
        refine lv_istore_n (lv' := [(3, .int 0), (0, .ref (aM 0)), (1, .long n82_0)]) X.1 X.2.1 dX9_digest_138 rfl hl (by decide) rfl (fun ls hl => ?_)
        exact L139_4  _ _ _ _ hf _ _ hP hD hS _ (lv_sub hl [1, 2, 0] rfl)
      · have hf := ite_f hf c4
        refine lv_ldc2 (v := 31) X.1 X.2.1 X.2.2.2.1 (X.2.2.2.2 _ (bw_in W44_13)) dX9_digest_90 ?_
        refine lv_lload_n X.1 X.2.1 dX9_digest_93 rfl (lv_at hl 1 rfl) ?_
        refine lv_lmul X.1 X.2.1 dX9_digest_94 ?_
        refine lv_aload_n X.1 X.2.1 dX9_digest_95 rfl (lv_at hl 0 rfl) ?_
        refine z_get X hK hP hiX9 0 rfl rfl 7 (by decide) (bw_in W6_21) rfl dX9_digest_96 ?_
        refine lv_iload_n X.1 X.2.1 dX9_digest_99 rfl (lv_at hl 2 rfl) ?_
        obtain ⟨hi73, hf⟩ := chk_e hf
        obtain ⟨v72, ev72, hf⟩ := stp_e hf
        refine z_iald X hK hP 6 rfl hi73 ev72 dX9_digest_100 ?_
        refine lv_i2l X.1 X.2.1 dX9_digest_101 rfl ?_
        refine lv_ladd X.1 X.2.1 dX9_digest_102 ?_
        obtain ⟨w74, ew74, hf⟩ := stp_e hf
        refine z_topl ew74 ?_
        refine lv_lstore_n (lv' := [(1, .long w74), (0, .ref (aM 0)), (3, .int n82_1)]) X.1 X.2.1 dX9_digest_103 rfl hl (by decide) rfl (fun ls hl => ?_)
        refine lv_ldc2 (v := 31) X.1 X.2.1 X.2.2.2.1 (X.2.2.2.2 _ (bw_in W44_13)) dX9_digest_104 ?_
        refine lv_lload_n X.1 X.2.1 dX9_digest_107 rfl (lv_at hl 0 rfl) ?_
        refine lv_lmul X.1 X.2.1 dX9_digest_108 ?_
        refine lv_aload_n X.1 X.2.1 dX9_digest_109 rfl (lv_at hl 1 rfl) ?_
        refine z_get X hK hP hiX9 0 rfl rfl 8 (by decide) (bw_in W6_22) rfl dX9_digest_110 ?_
        refine lv_iload_n X.1 X.2.1 dX9_digest_113 rfl (lv_at hl 2 rfl) ?_
        obtain ⟨hi76, hf⟩ := chk_e hf
        obtain ⟨v75, ev75, hf⟩ := stp_e hf
        refine z_iald X hK hP 7 rfl hi76 ev75 dX9_digest_114 ?_
        refine lv_i2l X.1 X.2.1 dX9_digest_115 rfl ?_
        refine lv_ladd X.1 X.2.1 dX9_digest_116 ?_
        obtain ⟨w77, ew77, hf⟩ := stp_e hf
        refine z_topl ew77 ?_
        refine lv_lstore_n (lv' := [(1, .long w77), (0, .ref (aM 0)), (3, .int n82_1)]) X.1 X.2.1 dX9_digest_117 rfl hl (by decide) rfl (fun ls hl => ?_)
        refine lv_ldc2 (v := 31) X.1 X.2.1 X.2.2.2.1 (X.2.2.2.2 _ (bw_in W44_13)) dX9_digest_118 ?_
        refine lv_lload_n X.1 X.2.1 dX9_digest_121 rfl (lv_at hl 0 rfl) ?_
        refine lv_lmul X.1 X.2.1 dX9_digest_122 ?_
        refine lv_aload_n X.1 X.2.1 dX9_digest_123 rfl (lv_at hl 1 rfl) ?_
        refine lv_iload_n X.1 X.2.1 dX9_digest_124 rfl (lv_at hl 2 rfl) ?_
        obtain ⟨r78, s79, hc80, hf⟩ := bd2_e hf
        refine z_V (n := 1) (As := [.int n82_1]) (rest := [.long ((31 : Int64) * w77)]) (ci := 9) (q0 := 0) X hK hN (kX9_whoOf l D K aM q82_M _ n82_1 r78 s79 hc80) (bw_V W34_13 W34_14 W34_15 W1_5 W34_16) rfl ⟨rfl, rfl⟩ (by decide +kernel) rfl ⟨Nat.le_of_ble_eq_true rfl, Nat.le_of_ble_eq_true rfl⟩ hP hD rfl rfl (zj_same hD hS hA) hS hl.1 rfl (Nat.le_of_ble_eq_true rfl) dX9_digest_125 ⟨Nat.zero_le _, Nat.zero_le _⟩ rfl (fun H locs hP hD hS => ?_)
        refine lv_i2l X.1 X.2.1 dX9_digest_128 rfl ?_
        refine lv_ladd X.1 X.2.1 dX9_digest_129 ?_
        obtain ⟨w81, ew81, hf⟩ := stp_e hf
        refine z_topl ew81 ?_
        refine lv_lstore_n (lv' := [(1, .long w81), (0, .ref (aM 0)), (3, .int n82_1)]) X.1 X.2.1 dX9_digest_130 rfl hl (by decide) rfl (fun ls hl => ?_)
        obtain ⟨w82, ew82, hf⟩ := stp_e hf
        refine lv_iinc (v := w82) (lv' := [(3, .int w82), (1, .long w81), (0, .ref (aM 0))]) X.1 X.2.1 dX9_digest_131 hl (k := 2) rfl (by rw [ew82]; rfl) (by decide) rfl (fun ls hl => ?_)
        refine lv_goto (tgt := 82) X.1 X.2.1 dX9_digest_134 (by decide) ?_
        exact ih _ _ _ hf _ _ hP hD hS _ (lv_sub hl [2, 1, 0] rfl)
  have L59_2 : ∀ (n : Nat), ∀ (n59_0 : Int64) (n59_1 : Int32) (q59_M : St), fX9_digest_59 n n59_0 n59_1 q59_M = some ((q_, s_)) → ∀ (H : Heap) (locs : List Loc), va_P D vwCl (wbX9 K aM q59_M) H → va_D A (wbX9 K aM q59_M) → va_S A s.heap H locs → ∀ (ls : Array Slot), lv_has ls 4 [(0, .ref (aM 0)), (1, .long n59_0), (3, .int n59_1)] → W p l e rmX9_digest s m ([.ref (aM 0)] : List Value).toArray below meth c H locs 0 0 (MQ below (zQ (some (.long q_)) D A (wbX9 K aM s_)) ([.ref (aM 0)] : List Value).toArray s 0 0 A) (F0 m 59 ls []) := by
    intro n
    induction n with
    | zero =>
      intro n59_0 n59_1 q59_M hf
      rw [fX9_digest_59] at hf
      cases hf
    | succ n ih =>
      intro n59_0 n59_1 q59_M hf H locs hP hD hS ls hl
      rw [fX9_digest_59] at hf
      refine lv_iload_n X.1 X.2.1 dX9_digest_59 rfl (lv_at hl 2 rfl) ?_
      refine lv_aload_n X.1 X.2.1 dX9_digest_60 rfl (lv_at hl 0 rfl) ?_
      refine z_get X hK hP hiX9 0 rfl rfl 2 (by decide) (bw_in W10_12) rfl dX9_digest_61 ?_
      refine lv_icmp_ge (tgt := 80) X.1 X.2.1 dX9_digest_64 (by decide) (fun c3 => ?_) (fun c3 => ?_)
      · have hf := ite_t hf c3
        refine lv_iconst (v := 0) X.1 X.2.1 dX9_digest_80 (by decide) ?_
        refine lv_istore_n (lv' := [(3, .int 0), (0, .ref (aM 0)), (1, .long n59_0)]) X.1 X.2.1 dX9_digest_81 rfl hl (by decide) rfl (fun ls hl => ?_)
        exact L82_3  _ _ _ _ hf _ _ hP hD hS _ (lv_sub hl [1, 2, 0] rfl)
      · have hf := ite_f hf c3
        refine lv_aload_n X.1 X.2.1 dX9_digest_67 rfl (lv_at hl 0 rfl) ?_
        refine lv_lload_n X.1 X.2.1 dX9_digest_68 rfl (lv_at hl 1 rfl) ?_
        refine lv_iload_n X.1 X.2.1 dX9_digest_69 rfl (lv_at hl 2 rfl) ?_
        obtain ⟨r83, s84, hc85, hf⟩ := bd2_e hf
        refine z_V (n := 2) (As := [.long n59_0, .int n59_1]) (rest := []) (ci := 9) (q0 := 0) X hK hN (kX9_riderDigest l D K aM q59_M _ n59_0 n59_1 r83 s84 hc85) (bw_V W44_15 W44_16 W44_17 W1_5 W44_18) rfl ⟨rfl, rfl⟩ (by decide +kernel) rfl ⟨Nat.le_of_ble_eq_true rfl, Nat.le_of_ble_eq_true rfl⟩ hP hD rfl rfl (zj_same hD hS hA) hS hl.1 rfl (Nat.le_of_ble_eq_true rfl) dX9_digest_70 ⟨Nat.zero_le _, Nat.zero_le _⟩ rfl (fun H locs hP hD hS => ?_)
        refine lv_lstore_n (lv' := [(1, .long r83), (0, .ref (aM 0)), (3, .int n59_1)]) X.1 X.2.1 dX9_digest_73 rfl hl (by decide) rfl (fun ls hl => ?_)
        obtain ⟨w86, ew86, hf⟩ := stp_e hf
        refine lv_iinc (v := w86) (lv' := [(3, .int w86), (1, .long r83), (0, .ref (aM 0))]) X.1 X.2.1 dX9_digest_74 hl (k := 2) rfl (by rw [ew86]; rfl) (by decide) rfl (fun ls hl => ?_)
        refine lv_goto (tgt := 59) X.1 X.2.1 dX9_digest_77 (by decide) ?_
        exact ih _ _ _ hf _ _ hP hD hS _ (lv_sub hl [2, 1, 0] rfl)
  have L33_1 : ∀ (n : Nat), ∀ (n33_0 : Int64) (n33_1 : Int32) (q33_M : St), fX9_digest_33 n n33_0 n33_1 q33_M = some ((q_, s_)) → ∀ (H : Heap) (locs : List Loc), va_P D vwCl (wbX9 K aM q33_M) H → va_D A (wbX9 K aM q33_M) → va_S A s.heap H locs → ∀ (ls : Array Slot), lv_has ls 4 [(0, .ref (aM 0)), (1, .long n33_0), (3, .int n33_1)] → W p l e rmX9_digest s m ([.ref (aM 0)] : List Value).toArray below meth c H locs 0 0 (MQ below (zQ (some (.long q_)) D A (wbX9 K aM s_)) ([.ref (aM 0)] : List Value).toArray s 0 0 A) (F0 m 33 ls []) := by
    intro n
    induction n with
    | zero =>
      intro n33_0 n33_1 q33_M hf
      rw [fX9_digest_33] at hf
      cases hf
    | succ n ih =>
      intro n33_0 n33_1 q33_M hf H locs hP hD hS ls hl
      rw [fX9_digest_33] at hf
      refine lv_iload_n X.1 X.2.1 dX9_digest_33 rfl (lv_at hl 2 rfl) ?_
      refine lv_iconst (v := 3) X.1 X.2.1 dX9_digest_34 (by decide) ?_
      refine lv_icmp_ge (tgt := 57) X.1 X.2.1 dX9_digest_35 (by decide) (fun c2 => ?_) (fun c2 => ?_)
      · have hf := ite_t hf c2
        refine lv_iconst (v := 0) X.1 X.2.1 dX9_digest_57 (by decide) ?_
        refine lv_istore_n (lv' := [(3, .int 0), (0, .ref (aM 0)), (1, .long n33_0)]) X.1 X.2.1 dX9_digest_58 rfl hl (by decide) rfl (fun ls hl => ?_)
        exact L59_2  _ _ _ _ hf _ _ hP hD hS _ (lv_sub hl [1, 2, 0] rfl)
      · have hf := ite_f hf c2
        refine lv_ldc2 (v := 31) X.1 X.2.1 X.2.2.2.1 (X.2.2.2.2 _ (bw_in W44_13)) dX9_digest_38 ?_
        refine lv_lload_n X.1 X.2.1 dX9_digest_41 rfl (lv_at hl 1 rfl) ?_
        refine lv_lmul X.1 X.2.1 dX9_digest_42 ?_
        refine lv_aload_n X.1 X.2.1 dX9_digest_43 rfl (lv_at hl 0 rfl) ?_
        refine lv_iload_n X.1 X.2.1 dX9_digest_44 rfl (lv_at hl 2 rfl) ?_
        obtain ⟨r87, s88, hc89, hf⟩ := bd2_e hf
        refine z_V (n := 1) (As := [.int n33_1]) (rest := [.long ((31 : Int64) * n33_0)]) (ci := 9) (q0 := 0) X hK hN (kX9_faultOf l D K aM q33_M _ n33_1 r87 s88 hc89) (bw_V W10_4 W10_5 W10_6 W1_5 W10_7) rfl ⟨rfl, rfl⟩ (by decide +kernel) rfl ⟨Nat.le_of_ble_eq_true rfl, Nat.le_of_ble_eq_true rfl⟩ hP hD rfl rfl (zj_same hD hS hA) hS hl.1 rfl (Nat.le_of_ble_eq_true rfl) dX9_digest_45 ⟨Nat.zero_le _, Nat.zero_le _⟩ rfl (fun H locs hP hD hS => ?_)
        refine lv_i2l X.1 X.2.1 dX9_digest_48 rfl ?_
        refine lv_ladd X.1 X.2.1 dX9_digest_49 ?_
        obtain ⟨w90, ew90, hf⟩ := stp_e hf
        refine z_topl ew90 ?_
        refine lv_lstore_n (lv' := [(1, .long w90), (0, .ref (aM 0)), (3, .int n33_1)]) X.1 X.2.1 dX9_digest_50 rfl hl (by decide) rfl (fun ls hl => ?_)
        obtain ⟨w91, ew91, hf⟩ := stp_e hf
        refine lv_iinc (v := w91) (lv' := [(3, .int w91), (1, .long w90), (0, .ref (aM 0))]) X.1 X.2.1 dX9_digest_51 hl (k := 2) rfl (by rw [ew91]; rfl) (by decide) rfl (fun ls hl => ?_)
        refine lv_goto (tgt := 33) X.1 X.2.1 dX9_digest_54 (by decide) ?_
        exact ih _ _ _ hf _ _ hP hD hS _ (lv_sub hl [2, 1, 0] rfl)
  have L6_0 : ∀ (n : Nat), ∀ (n6_0 : Int64) (n6_1 : Int32) (q6_M : St), fX9_digest_6 n n6_0 n6_1 q6_M = some ((q_, s_)) → ∀ (H : Heap) (locs : List Loc), va_P D vwCl (wbX9 K aM q6_M) H → va_D A (wbX9 K aM q6_M) → va_S A s.heap H locs → ∀ (ls : Array Slot), lv_has ls 4 [(0, .ref (aM 0)), (1, .long n6_0), (3, .int n6_1)] → W p l e rmX9_digest s m ([.ref (aM 0)] : List Value).toArray below meth c H locs 0 0 (MQ below (zQ (some (.long q_)) D A (wbX9 K aM s_)) ([.ref (aM 0)] : List Value).toArray s 0 0 A) (F0 m 6 ls []) := by
    intro n
    induction n with
    | zero =>
      intro n6_0 n6_1 q6_M hf
      rw [fX9_digest_6] at hf
      cases hf
    | succ n ih =>
      intro n6_0 n6_1 q6_M hf H locs hP hD hS ls hl
      rw [fX9_digest_6] at hf
      refine lv_iload_n X.1 X.2.1 dX9_digest_6 rfl (lv_at hl 2 rfl) ?_
      refine lv_bipush (v := 8) X.1 X.2.1 dX9_digest_7 (by decide) ?_
      refine lv_icmp_ge (tgt := 31) X.1 X.2.1 dX9_digest_9 (by decide) (fun c1 => ?_) (fun c1 => ?_)
      · have hf := ite_t hf c1
        refine lv_iconst (v := 0) X.1 X.2.1 dX9_digest_31 (by decide) ?_
        refine lv_istore_n (lv' := [(3, .int 0), (0, .ref (aM 0)), (1, .long n6_0)]) X.1 X.2.1 dX9_digest_32 rfl hl (by decide) rfl (fun ls hl => ?_)
        exact L33_1  _ _ _ _ hf _ _ hP hD hS _ (lv_sub hl [1, 2, 0] rfl)
      · have hf := ite_f hf c1
        refine lv_ldc2 (v := 31) X.1 X.2.1 X.2.2.2.1 (X.2.2.2.2 _ (bw_in W44_13)) dX9_digest_12 ?_
        refine lv_lload_n X.1 X.2.1 dX9_digest_15 rfl (lv_at hl 1 rfl) ?_
        refine lv_lmul X.1 X.2.1 dX9_digest_16 ?_
        refine lv_aload_n X.1 X.2.1 dX9_digest_17 rfl (lv_at hl 0 rfl) ?_
        refine lv_iload_n X.1 X.2.1 dX9_digest_18 rfl (lv_at hl 2 rfl) ?_
        obtain ⟨r92, s93, hc94, hf⟩ := bd2_e hf
        refine z_V (n := 1) (As := [.int n6_1]) (rest := [.long ((31 : Int64) * n6_0)]) (ci := 9) (q0 := 0) X hK hN (kX9_count l D K aM q6_M _ n6_1 r92 s93 hc94) (bw_V W44_14 W42_5 W42_6 W1_5 W42_7) rfl ⟨rfl, rfl⟩ (by decide +kernel) rfl ⟨Nat.le_of_ble_eq_true rfl, Nat.le_of_ble_eq_true rfl⟩ hP hD rfl rfl (zj_same hD hS hA) hS hl.1 rfl (Nat.le_of_ble_eq_true rfl) dX9_digest_19 ⟨Nat.zero_le _, Nat.zero_le _⟩ rfl (fun H locs hP hD hS => ?_)
        refine lv_i2l X.1 X.2.1 dX9_digest_22 rfl ?_
        refine lv_ladd X.1 X.2.1 dX9_digest_23 ?_
        obtain ⟨w95, ew95, hf⟩ := stp_e hf
        refine z_topl ew95 ?_
        refine lv_lstore_n (lv' := [(1, .long w95), (0, .ref (aM 0)), (3, .int n6_1)]) X.1 X.2.1 dX9_digest_24 rfl hl (by decide) rfl (fun ls hl => ?_)
        obtain ⟨w96, ew96, hf⟩ := stp_e hf
        refine lv_iinc (v := w96) (lv' := [(3, .int w96), (1, .long w95), (0, .ref (aM 0))]) X.1 X.2.1 dX9_digest_25 hl (k := 2) rfl (by rw [ew96]; rfl) (by decide) rfl (fun ls hl => ?_)
        refine lv_goto (tgt := 6) X.1 X.2.1 dX9_digest_28 (by decide) ?_
        exact ih _ _ _ hf _ _ hP hD hS _ (lv_sub hl [2, 1, 0] rfl)
  rw [fX9_digest] at hf
  refine lv_ldc2 (v := 17) X.1 X.2.1 X.2.2.2.1 (X.2.2.2.2 _ (bw_in W44_12)) dX9_digest_0 ?_
  refine lv_lstore_n (lv' := [(1, .long 17), (0, .ref (aM 0))]) X.1 X.2.1 dX9_digest_3 rfl hl (by decide) rfl (fun ls hl => ?_)
  refine lv_iconst (v := 0) X.1 X.2.1 dX9_digest_4 (by decide) ?_
  refine lv_istore_n (lv' := [(3, .int 0), (1, .long 17), (0, .ref (aM 0))]) X.1 X.2.1 dX9_digest_5 rfl hl (by decide) rfl (fun ls hl => ?_)
  exact L6_0  _ _ _ _ hf _ _ hP hD hS _ (lv_sub hl [2, 1, 0] rfl)
