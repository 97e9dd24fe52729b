abbrev rmX9_who : Room := { frames := 8, cells := 0, slots := 0, locals := 187 }
set_option maxHeartbeats 4000000 in
set_option maxRecDepth 100000 in
theorem kX9_who (l : Launch) (D : va_G) (K : Nat → ClassId) (aM : Nat → Nat) (s0 : St) (sz : Nat) (x1 : Int32) (q_ : Int32) (s_ : St) (hf : fX9_who s0 x1 = some (q_, s_)) : Met l yX9_who (bw (Cond.code yX9_who cX9_who 2 (some .int))) rmX9_who (va_Pc [.ref (aM 0), .int x1] (zB D K sz (wbX9 K aM s0))) (zQ (some (.int q_)) D (va_A (wbX9 K aM s0) sz) (wbX9 K aM s_)) 0 0 (va_A (wbX9 K aM s0) sz) := by
  refine z_of (cc := cX9_who) (maxL := 2) (ret := (some .int)) (own := RX9) (lv := [(0, .ref (aM 0)), (1, .int x1)]) (by decide) rfl rfl (Nat.le_of_ble_eq_true rfl) rfl ?_
  intro p e s m below meth c X hr hlk hK hN hsz hP hD hA hS hin ls hl
  generalize va_A (wbX9 K aM s0) sz = A at hD hA hS hN ⊢
  rw [fX9_who] at hf
  refine lv_aload_n X.1 X.2.1 dX9_who_0 rfl (lv_at hl 0 rfl) ?_
  refine lv_iload_n X.1 X.2.1 dX9_who_1 rfl (lv_at hl 1 rfl) ?_
  obtain ⟨r1, s2, hc3, hf⟩ := bd2_e hf
  refine z_V (n := 1) (As := [.int x1]) (rest := []) (ci := 9) (q0 := 0) X hK hN (kX9_isLeaver l D K aM s0 _ x1 r1 s2 hc3) (bw_V W17_12 W17_13 W17_14 W1_5 W17_15) rfl ⟨rfl, rfl⟩ (by decide +kernel) rfl ⟨Nat.le_of_ble_eq_true rfl, Nat.le_of_ble_eq_true rfl⟩ hP hD rfl rfl (zj_same hD hS hA) hS hl.1 rfl (Nat.le_of_ble_eq_true rfl) dX9_who_2 ⟨Nat.zero_le _, Nat.zero_le _⟩ rfl (fun H locs hP hD hS => ?_)
  refine lv_if_eq (tgt := 16) X.1 X.2.1 dX9_who_5 (by decide) (fun c4 => ?_) (fun c4 => ?_)
  · have hf := ite_t hf c4
    refine lv_bipush (v := -2) X.1 X.2.1 dX9_who_16 (by decide) ?_
    obtain ⟨rfl, rfl⟩ := z_inj2 hf
    exact z_iret X hr hlk hP hD hS dX9_who_18
  · have hf := ite_f hf c4
    refine lv_aload_n X.1 X.2.1 dX9_who_8 rfl (lv_at hl 0 rfl) ?_
    refine lv_iload_n X.1 X.2.1 dX9_who_9 rfl (lv_at hl 1 rfl) ?_
    obtain ⟨r5, s6, hc7, hf⟩ := bd2_e hf
    refine z_V (n := 1) (As := [.int x1]) (rest := []) (ci := 9) (q0 := 0) X hK hN (kX9_whoOf l D K aM s2 _ x1 r5 s6 hc7) (bw_V W34_13 W34_14 W34_15 W1_5 W34_16) rfl ⟨rfl, rfl⟩ (by decide +kernel) rfl ⟨Nat.le_of_ble_eq_true rfl, Nat.le_of_ble_eq_true rfl⟩ hP hD rfl rfl (zj_same hD hS hA) hS hl.1 rfl (Nat.le_of_ble_eq_true rfl) dX9_who_10 ⟨Nat.zero_le _, Nat.zero_le _⟩ rfl (fun H locs hP hD hS => ?_)
    refine lv_goto (tgt := 18) X.1 X.2.1 dX9_who_13 (by decide) ?_
    obtain ⟨rfl, rfl⟩ := z_inj2 hf
    exact z_iret X hr hlk hP hD hS dX9_who_18
abbrev rmX9_wipe : Room := { frames := 2, cells := 0, slots := 0, locals := 42 }
set_option maxHeartbeats 4000000 in
set_option maxRecDepth 100000 in
theorem kX9_wipe (l : Launch) (D : va_G) (K : Nat → ClassId) (aM : Nat → Nat) (s0 : St) (sz : Nat) (x1 : Int32) (q_ : Int32) (s_ : St) (hf : fX9_wipe s0 x1 = some (q_, s_)) : Met l yX9_wipe (bw (Cond.code yX9_wipe cX9_wipe 3 (some .int))) rmX9_wipe (va_Pc [.ref (aM 0), .int x1] (zB D K sz (wbX9 K aM s0))) (zQ (some (.int q_)) D (va_A (wbX9 K aM s0) sz) (wbX9 K aM s_)) 0 0 (va_A (wbX9 K aM s0) sz) := by
  refine z_of (cc := cX9_wipe) (maxL := 3) (ret := (some .int)) (own := RX9) (lv := [(0, .ref (aM 0)), (1, .int x1)]) (by decide) rfl rfl (Nat.le_of_ble_eq_true rfl) rfl ?_
  intro p e s m below meth c X hr hlk hK hN hsz hP hD hA hS hin ls hl
  generalize va_A (wbX9 K aM s0) sz = A at hD hA hS hN ⊢
  have hiX9 : ∀ w ∈ u_ws RX9 TX9 44, w ∈ (bw (Cond.code yX9_wipe cX9_wipe 3 (some .int))) := fun w h => bw_in (inlX9 w h)
  rw [fX9_wipe] at hf
  refine lv_iload_n X.1 X.2.1 dX9_wipe_0 rfl (lv_at hl 1 rfl) ?_
  obtain ⟨r1, hc2, hf⟩ := bd1_e hf
  refine z_S (n := 1) (As := [.int x1]) (rest := []) X hK hN (kX9_isText l D K _ x1 r1 hc2) (bw_S W8_14 W8_15 W1_5 W8_16) rfl ⟨rfl, rfl⟩ (by decide +kernel) rfl ⟨Nat.le_of_ble_eq_true rfl, Nat.le_of_ble_eq_true rfl⟩ (fun _ _ h => by simp at h) ⟨fun _ _ _ _ h => by simp at h, fun _ _ h => by simp at h⟩ (zj_none hP hD hS hA) hS hl.1 rfl (Nat.le_of_ble_eq_true rfl) dX9_wipe_1 ⟨Nat.zero_le _, Nat.zero_le _⟩ rfl (fun H locs hP hD hS => ?_)
  refine lv_if_ne (tgt := 10) X.1 X.2.1 dX9_wipe_4 (by decide) (fun c3 => ?_) (fun c3 => ?_)
  · have hf := ite_f hf c3
    refine lv_aload_n X.1 X.2.1 dX9_wipe_10 rfl (lv_at hl 0 rfl) ?_
    refine z_get X hK hP hiX9 0 rfl rfl 0 (by decide) (bw_in W6_16) rfl dX9_wipe_11 ?_
    refine lv_iload_n X.1 X.2.1 dX9_wipe_14 rfl (lv_at hl 1 rfl) ?_
    obtain ⟨hi5, hf⟩ := chk_e hf
    obtain ⟨v4, ev4, hf⟩ := stp_e hf
    refine z_iald X hK hP 1 rfl hi5 ev4 dX9_wipe_15 ?_
    refine lv_istore_n (lv' := [(2, .int v4), (0, .ref (aM 0)), (1, .int x1)]) X.1 X.2.1 dX9_wipe_16 rfl hl (by decide) rfl (fun ls hl => ?_)
    refine lv_aload_n X.1 X.2.1 dX9_wipe_17 rfl (lv_at hl 1 rfl) ?_
    refine z_get X hK hP hiX9 0 rfl rfl 0 (by decide) (bw_in W6_16) rfl dX9_wipe_18 ?_
    refine lv_iload_n X.1 X.2.1 dX9_wipe_21 rfl (lv_at hl 2 rfl) ?_
    refine lv_iconst (v := 0) X.1 X.2.1 dX9_wipe_22 (by decide) ?_
    obtain ⟨hi6, hf⟩ := chk_e hf
    obtain ⟨s7, es7, hf⟩ := stp_e hf
    refine z_iast (ws' := wbX9 K aM s7) X hK hP hD hS 1 rfl hi6 dX9_wipe_23 (by rw [es7]; rfl) (fun H locs hP hD hS => ?_)
    refine lv_iload_n X.1 X.2.1 dX9_wipe_24 rfl (lv_at hl 0 rfl) ?_
    obtain ⟨rfl, rfl⟩ := z_inj2 hf
    exact z_iret X hr hlk hP hD hS dX9_wipe_25
  · have hf := ite_t hf c3
    refine lv_bipush (v := -2) X.1 X.2.1 dX9_wipe_7 (by decide) ?_
    obtain ⟨rfl, rfl⟩ := z_inj2 hf
    exact z_iret X hr hlk hP hD hS dX9_wipe_9
abbrev rmX9_write : Room := { frames := 9, cells := 0, slots := 0, locals := 206 }
set_option maxHeartbeats 4000000 in
set_option maxRecDepth 100000 in
theorem kX9_write (l : Launch) (D : va_G) (K : Nat → ClassId) (aM : Nat → Nat) (s0 : St) (sz : Nat) (x1 : Int32) (x2 : Int32) (q_ : Int32) (s_ : St) (hf : fX9_write s0 x1 x2 = some (q_, s_)) : Met l yX9_write (bw (Cond.code yX9_write cX9_write 4 (some .int))) rmX9_write (va_Pc [.ref (aM 0), .int x1, .int x2] (zB D K sz (wbX9 K aM s0))) (zQ (some (.int q_)) D (va_A (wbX9 K aM s0) sz) (wbX9 K aM s_)) 0 0 (va_A (wbX9 K aM s0) sz) := by
  refine z_of (cc := cX9_write) (maxL := 4) (ret := (some .int)) (own := RX9) (lv := [(0, .ref (aM 0)), (1, .int x1), (2, .int x2)]) (by decide) rfl rfl (Nat.le_of_ble_eq_true rfl) rfl ?_
  intro p e s m below meth c X hr hlk hK hN hsz hP hD hA hS hin ls hl
  generalize va_A (wbX9 K aM s0) sz = A at hD hA hS hN ⊢
  have hiX9 : ∀ w ∈ u_ws RX9 TX9 44, w ∈ (bw (Cond.code yX9_write cX9_write 4 (some .int))) := fun w h => bw_in (inlX9 w h)
  have L36_0 : ∀ (n : Nat), ∀ (n36_0 : Int32) (n36_1 : Int32) (n36_2 : Int32) (q36_M : St), fX9_write_36 n n36_0 n36_1 n36_2 q36_M = some ((q_, s_)) → ∀ (H : Heap) (locs : List Loc), va_P D vwCl (wbX9 K aM q36_M) H → va_D A (wbX9 K aM q36_M) → va_S A s.heap H locs → ∀ (ls : Array Slot), lv_has ls 4 [(0, .ref (aM 0)), (1, .int n36_0), (2, .int n36_1), (3, .int n36_2)] → W p l e rmX9_write s m ([.ref (aM 0), .int x1, .int x2] : List Value).toArray below meth c H locs 0 0 (MQ below (zQ (some (.int q_)) D A (wbX9 K aM s_)) ([.ref (aM 0), .int x1, .int x2] : List Value).toArray s 0 0 A) (F0 m 36 ls []) := by
    intro n
    induction n with
    | zero =>
      intro n36_0 n36_1 n36_2 q36_M hf
      rw [fX9_write_36] at hf
      cases hf
    | succ n ih =>
      intro n36_0 n36_1 n36_2 q36_M hf H locs hP hD hS ls hl
      rw [fX9_write_36] at hf
      refine lv_iload_n X.1 X.2.1 dX9_write_36 rfl (lv_at hl 3 rfl) ?_
      refine lv_aload_n X.1 X.2.1 dX9_write_37 rfl (lv_at hl 0 rfl) ?_
      refine z_get X hK hP hiX9 0 rfl rfl 40 (by decide) (bw_in W7_17) rfl dX9_write_38 ?_
      refine lv_iload_n X.1 X.2.1 dX9_write_41 rfl (lv_at hl 2 rfl) ?_
      obtain ⟨hi11, hf⟩ := chk_e hf
      obtain ⟨v10, ev10, hf⟩ := stp_e hf
      refine z_iald X hK hP 25 rfl hi11 ev10 dX9_write_42 ?_
      refine lv_icmp_ge (tgt := 64) X.1 X.2.1 dX9_write_43 (by decide) (fun c12 => ?_) (fun c12 => ?_)
      · have hf := ite_t hf c12
        refine lv_iload_n X.1 X.2.1 dX9_write_64 rfl (lv_at hl 3 rfl) ?_
        obtain ⟨rfl, rfl⟩ := z_inj2 hf
        exact z_iret X hr hlk hP hD hS dX9_write_65
      · have hf := ite_f hf c12
        refine lv_aload_n X.1 X.2.1 dX9_write_46 rfl (lv_at hl 0 rfl) ?_
        refine lv_iload_n X.1 X.2.1 dX9_write_47 rfl (lv_at hl 2 rfl) ?_
        refine lv_iload_n X.1 X.2.1 dX9_write_48 rfl (lv_at hl 3 rfl) ?_
        refine lv_aload_n X.1 X.2.1 dX9_write_49 rfl (lv_at hl 0 rfl) ?_
        refine lv_iload_n X.1 X.2.1 dX9_write_50 rfl (lv_at hl 3 rfl) ?_
        refine lv_iload_n X.1 X.2.1 dX9_write_51 rfl (lv_at hl 1 rfl) ?_
        obtain ⟨r13, s14, hc15, hf⟩ := bd2_e hf
        refine z_V (n := 2) (As := [.int n36_2, .int n36_0]) (rest := [.int n36_2, .int n36_1, .ref (aM 0)]) (ci := 9) (q0 := 0) X hK hN (kX9_liftOf l D K aM q36_M _ n36_2 n36_0 r13 s14 hc15) (bw_V W19_18 W19_19 W19_20 W1_5 W19_21) rfl ⟨rfl, rfl⟩ (by decide +kernel) rfl ⟨Nat.le_of_ble_eq_true rfl, Nat.le_of_ble_eq_true rfl⟩ hP hD rfl rfl (zj_same hD hS hA) hS hl.1 rfl (Nat.le_of_ble_eq_true rfl) dX9_write_52 ⟨Nat.zero_le _, Nat.zero_le _⟩ rfl (fun H locs hP hD hS => ?_)
        obtain ⟨s16, hc17, hf⟩ := bd1_e hf
        refine z_V (n := 3) (As := [.int n36_1, .int n36_2, .int r13]) (rest := []) (ci := 9) (q0 := 0) X hK hN (kX9_keep l D K aM s14 _ n36_1 n36_2 r13 s16 hc17) (bw_V W40_9 W40_10 W40_11 W1_5 W40_12) rfl ⟨rfl, rfl⟩ (by decide +kernel) rfl ⟨Nat.le_of_ble_eq_true rfl, Nat.le_of_ble_eq_true rfl⟩ hP hD rfl rfl (zj_same hD hS hA) hS hl.1 rfl (Nat.le_of_ble_eq_true rfl) dX9_write_55 ⟨Nat.zero_le _, Nat.zero_le _⟩ rfl (fun H locs hP hD hS => ?_)
        obtain ⟨w18, ew18, hf⟩ := stp_e hf
        refine lv_iinc (v := w18) (lv' := [(3, .int w18), (0, .ref (aM 0)), (1, .int n36_0), (2, .int n36_1)]) X.1 X.2.1 dX9_write_58 hl (k := 3) rfl (by rw [ew18]; rfl) (by decide) rfl (fun ls hl => ?_)
        refine lv_goto (tgt := 36) X.1 X.2.1 dX9_write_61 (by decide) ?_
        exact ih _ _ _ _ hf _ _ hP hD hS _ (lv_sub hl [1, 2, 3, 0] rfl)
  rw [fX9_write] at hf
  refine lv_iload_n X.1 X.2.1 dX9_write_0 rfl (lv_at hl 1 rfl) ?_
  refine lv_iconst (v := 0) X.1 X.2.1 dX9_write_1 (by decide) ?_
  refine lv_iconst (v := 3) X.1 X.2.1 dX9_write_2 (by decide) ?_
  obtain ⟨r1, hc2, hf⟩ := bd1_e hf
  refine z_S (n := 3) (As := [.int x1, .int 0, .int 3]) (rest := []) X hK hN (kX9_in l D K _ x1 0 3 r1 hc2) (bw_S W8_17 W8_18 W1_5 W8_19) rfl ⟨rfl, rfl⟩ (by decide +kernel) rfl ⟨Nat.le_of_ble_eq_true rfl, Nat.le_of_ble_eq_true rfl⟩ (fun _ _ h => by simp at h) ⟨fun _ _ _ _ h => by simp at h, fun _ _ h => by simp at h⟩ (zj_none hP hD hS hA) hS hl.1 rfl (Nat.le_of_ble_eq_true rfl) dX9_write_3 ⟨Nat.zero_le _, Nat.zero_le _⟩ rfl (fun H locs hP hD hS => ?_)
  refine lv_if_eq (tgt := 16) X.1 X.2.1 dX9_write_6 (by decide) (fun c3 => ?_) (fun c3 => ?_)
  · have hf := ite_t hf c3
    refine lv_bipush (v := -2) X.1 X.2.1 dX9_write_16 (by decide) ?_
    obtain ⟨rfl, rfl⟩ := z_inj2 hf
    exact z_iret X hr hlk hP hD hS dX9_write_18
  · have hf := ite_f hf c3
    refine lv_iload_n X.1 X.2.1 dX9_write_9 rfl (lv_at hl 2 rfl) ?_
    obtain ⟨r4, hc5, hf⟩ := bd1_e hf
    refine z_S (n := 1) (As := [.int x2]) (rest := []) X hK hN (kX9_isSheet l D K _ x2 r4 hc5) (bw_S W32_0 W32_1 W1_5 W32_2) rfl ⟨rfl, rfl⟩ (by decide +kernel) rfl ⟨Nat.le_of_ble_eq_true rfl, Nat.le_of_ble_eq_true rfl⟩ (fun _ _ h => by simp at h) ⟨fun _ _ _ _ h => by simp at h, fun _ _ h => by simp at h⟩ (zj_none hP hD hS hA) hS hl.1 rfl (Nat.le_of_ble_eq_true rfl) dX9_write_10 ⟨Nat.zero_le _, Nat.zero_le _⟩ rfl (fun H locs hP hD hS => ?_)
    refine lv_if_ne (tgt := 19) X.1 X.2.1 dX9_write_13 (by decide) (fun c6 => ?_) (fun c6 => ?_)
    · have hf := ite_f hf c6
      refine lv_aload_n X.1 X.2.1 dX9_write_19 rfl (lv_at hl 0 rfl) ?_
      refine z_get X hK hP hiX9 0 rfl rfl 38 (by decide) (bw_in W7_15) rfl dX9_write_20 ?_
      refine lv_iload_n X.1 X.2.1 dX9_write_23 rfl (lv_at hl 2 rfl) ?_
      obtain ⟨hi8, hf⟩ := chk_e hf
      obtain ⟨v7, ev7, hf⟩ := stp_e hf
      refine z_zald X hK hP 23 rfl hi8 ev7 dX9_write_24 ?_
      refine lv_if_ne (tgt := 34) X.1 X.2.1 dX9_write_25 (by decide) (fun c9 => ?_) (fun c9 => ?_)
      · have hf := ite_f hf c9
        refine lv_iconst (v := 0) X.1 X.2.1 dX9_write_34 (by decide) ?_
        refine lv_istore_n (lv' := [(3, .int 0), (0, .ref (aM 0)), (1, .int x1), (2, .int x2)]) X.1 X.2.1 dX9_write_35 rfl hl (by decide) rfl (fun ls hl => ?_)
        exact L36_0  _ _ _ _ _ hf _ _ hP hD hS _ (lv_sub hl [1, 2, 3, 0] rfl)
      · have hf := ite_t hf c9
        refine lv_aload_n X.1 X.2.1 dX9_write_28 rfl (lv_at hl 0 rfl) ?_
        refine lv_iconst (v := 1) X.1 X.2.1 dX9_write_29 (by decide) ?_
        obtain ⟨r19, s20, hc21, hf⟩ := bd2_e hf
        refine z_V (n := 1) (As := [.int 1]) (rest := []) (ci := 9) (q0 := 0) X hK hN (kX9_meets l D K aM s0 _ 1 r19 s20 hc21) (bw_V W32_3 W32_4 W32_5 W1_5 W32_6) rfl ⟨rfl, rfl⟩ (by decide +kernel) rfl ⟨Nat.le_of_ble_eq_true rfl, Nat.le_of_ble_eq_true rfl⟩ hP hD rfl rfl (zj_same hD hS hA) hS hl.1 rfl (Nat.le_of_ble_eq_true rfl) dX9_write_30 ⟨Nat.zero_le _, Nat.zero_le _⟩ rfl (fun H locs hP hD hS => ?_)
        obtain ⟨rfl, rfl⟩ := z_inj2 hf
        exact z_iret X hr hlk hP hD hS dX9_write_33
    · have hf := ite_t hf c6
      refine lv_bipush (v := -2) X.1 X.2.1 dX9_write_16 (by decide) ?_
      obtain ⟨rfl, rfl⟩ := z_inj2 hf
      exact z_iret X hr hlk hP hD hS dX9_write_18
abbrev rmX8_freshen : Room := { frames := 4, cells := 0, slots := 0, locals := 98 }
set_option maxHeartbeats 4000000 in
set_option maxRecDepth 100000 in
theorem kX8_freshen (l : Launch) (D : va_G) (K : Nat → ClassId) (g : Nat → Nat → Nat) (z0 : Nat → St) (y0 : Nat → Lt) (sz : Nat)  (z_ : Nat → St) (hf : fX8_freshen z0 y0 = some z_) : Met l yX8_freshen (bw (Cond.code yX8_freshen cX8_freshen 1 none)) rmX8_freshen (va_Pc [.ref (g 0 0)] (zB D K sz (wbALL K g z0 y0))) (zQ (none) D (va_A (wbALL K g z0 y0) sz) (wbALL K g z_ y0)) 0 0 (va_A (wbALL K g z0 y0) sz) := by
  refine z_of (cc := cX8_freshen) (maxL := 1) (ret := none) (own := RX8) (lv := [(0, .ref (g 0 0))]) (by decide) rfl rfl (Nat.le_of_ble_eq_true rfl) rfl ?_
  intro p e s m below meth c X hr hlk hK hN hsz hP hD hA hS hin ls hl
  generalize va_A (wbALL K g z0 y0) sz = A at hD hA hS hN ⊢
  have hiX8 : ∀ w ∈ u_ws RX8 TX8 11, w ∈ (bw (Cond.code yX8_freshen cX8_freshen 1 none)) := fun w h => bw_in (inlX8 w h)
  rw [fX8_freshen] at hf
  refine lv_aload_n X.1 X.2.1 dX8_freshen_0 rfl (lv_at hl 0 rfl) ?_
  refine z_get X hK hP hiX8 0 rfl rfl 10 (by decide) (bw_in W2_18) rfl dX8_freshen_1 ?_
  refine lv_if_ne (tgt := 8) X.1 X.2.1 dX8_freshen_4 (by decide) (fun c1 => ?_) (fun c1 => ?_)
  · have hf := ite_f hf c1
    refine lv_aload_n X.1 X.2.1 dX8_freshen_8 rfl (lv_at hl 0 rfl) ?_
    refine lv_iconst (v := 0) X.1 X.2.1 dX8_freshen_9 (by decide) ?_
    obtain ⟨z2, ez2, hf⟩ := stp_e hf
    refine z_put (ws' := wbALL K g z2 y0) X hK hP hD hS hiX8 tyX8_ok nmX8 0 rfl rfl 10 (by decide) (bw_in W2_18) rfl (by decide) (by decide) (Nat.le_of_ble_eq_true rfl) dX8_freshen_10 (by rw [ez2]; rfl) (fun H locs hP hD hS => ?_)
    refine lv_aload_n X.1 X.2.1 dX8_freshen_13 rfl (lv_at hl 0 rfl) ?_
    refine z_get X hK hP hiX8 0 rfl rfl 2 (by decide) (bw_in W1_19) rfl dX8_freshen_14 ?_
    refine lv_aload_n X.1 X.2.1 dX8_freshen_17 rfl (lv_at hl 0 rfl) ?_
    refine z_get X hK hP hiX8 0 rfl rfl 0 (by decide) (bw_in W1_13) rfl dX8_freshen_18 ?_
    refine lv_iconst (v := 0) X.1 X.2.1 dX8_freshen_21 (by decide) ?_
    refine z_aald X hK hP 1 4 rfl rfl (vp_lit _ _ (by decide)) rfl dX8_freshen_22 ?_
    obtain ⟨h3, hc4, hf⟩ := bd1_e hf
    obtain ⟨z5, ez5, hf⟩ := stp_e hf
    have hp6 : List.Perm (wbALL K g z2 y0) ((wbX2 K (g 8) (z2 8) ++ (wbX7 K (g 1) (z2 1))) ++ ([0, 2, 3, 4, 5, 6, 7, 9, 10, 11, 12, 13, 14].map (bfALL K g z2 y0)).flatten) := by rw [asc2]; exact wbALL_perm [8, 1, 0, 2, 3, 4, 5, 6, 7, 9, 10, 11, 12, 13, 14] (by decide)
    refine z_V (n := 1) (As := [.ref (g 1 0)]) (rest := []) (ci := 2) (q0 := 0) X hK hN (kX2_takeRiders l D K (g 8) (g 1) (z2 8) (z2 1) _ h3 hc4) (bw_V W11_18 W11_19 W11_20 W1_18 W11_21) rfl ⟨rfl, rfl⟩ (by decide +kernel) rfl ⟨Nat.le_of_ble_eq_true rfl, Nat.le_of_ble_eq_true rfl⟩ (hP.perm hp6).lef (hD.perm hp6).lef rfl rfl (zj_perm (ws' := wbALL K g z5 y0) hP hD hS hA hp6 (by rw [ez5, asc2]; refine List.Perm.symm ?_; exact wbALL_perm [8, 1, 0, 2, 3, 4, 5, 6, 7, 9, 10, 11, 12, 13, 14] (by decide))) hS hl.1 rfl (Nat.le_of_ble_eq_true rfl) dX8_freshen_23 ⟨Nat.zero_le _, Nat.zero_le _⟩ rfl (fun H locs hP hD hS => ?_)
    refine lv_aload_n X.1 X.2.1 dX8_freshen_26 rfl (lv_at hl 0 rfl) ?_
    refine z_get X hK hP hiX8 0 rfl rfl 2 (by decide) (bw_in W1_19) rfl dX8_freshen_27 ?_
    refine lv_aload_n X.1 X.2.1 dX8_freshen_30 rfl (lv_at hl 0 rfl) ?_
    refine z_get X hK hP hiX8 0 rfl rfl 0 (by decide) (bw_in W1_13) rfl dX8_freshen_31 ?_
    refine lv_iconst (v := 1) X.1 X.2.1 dX8_freshen_34 (by decide) ?_
    refine z_aald X hK hP 1 4 rfl rfl (vp_lit _ _ (by decide)) rfl dX8_freshen_35 ?_
    obtain ⟨h7, hc8, hf⟩ := bd1_e hf
    obtain ⟨z9, ez9, hf⟩ := stp_e hf
    have hp10 : List.Perm (wbALL K g z5 y0) ((wbX2 K (g 8) (z5 8) ++ (wbX7 K (g 2) (z5 2))) ++ ([0, 1, 3, 4, 5, 6, 7, 9, 10, 11, 12, 13, 14].map (bfALL K g z5 y0)).flatten) := by rw [asc2]; exact wbALL_perm [8, 2, 0, 1, 3, 4, 5, 6, 7, 9, 10, 11, 12, 13, 14] (by decide)
    refine z_V (n := 1) (As := [.ref (g 2 0)]) (rest := []) (ci := 2) (q0 := 0) X hK hN (kX2_takeLeavers l D K (g 8) (g 2) (z5 8) (z5 2) _ h7 hc8) (bw_V W12_19 W12_20 W12_21 W1_18 W12_22) rfl ⟨rfl, rfl⟩ (by decide +kernel) rfl ⟨Nat.le_of_ble_eq_true rfl, Nat.le_of_ble_eq_true rfl⟩ (hP.perm hp10).lef (hD.perm hp10).lef rfl rfl (zj_perm (ws' := wbALL K g z9 y0) hP hD hS hA hp10 (by rw [ez9, asc2]; refine List.Perm.symm ?_; exact wbALL_perm [8, 2, 0, 1, 3, 4, 5, 6, 7, 9, 10, 11, 12, 13, 14] (by decide))) hS hl.1 rfl (Nat.le_of_ble_eq_true rfl) dX8_freshen_36 ⟨Nat.zero_le _, Nat.zero_le _⟩ rfl (fun H locs hP hD hS => ?_)
    refine lv_aload_n X.1 X.2.1 dX8_freshen_39 rfl (lv_at hl 0 rfl) ?_
    refine z_get X hK hP hiX8 0 rfl rfl 2 (by decide) (bw_in W1_19) rfl dX8_freshen_40 ?_
    refine lv_aload_n X.1 X.2.1 dX8_freshen_43 rfl (lv_at hl 0 rfl) ?_
    refine z_get X hK hP hiX8 0 rfl rfl 0 (by decide) (bw_in W1_13) rfl dX8_freshen_44 ?_
    refine lv_iconst (v := 2) X.1 X.2.1 dX8_freshen_47 (by decide) ?_
    refine z_aald X hK hP 1 4 rfl rfl (vp_lit _ _ (by decide)) rfl dX8_freshen_48 ?_
    obtain ⟨h11, hc12, hf⟩ := bd1_e hf
    obtain ⟨z13, ez13, hf⟩ := stp_e hf
    have hp14 : List.Perm (wbALL K g z9 y0) ((wbX2 K (g 8) (z9 8) ++ (wbX7 K (g 3) (z9 3))) ++ ([0, 1, 2, 4, 5, 6, 7, 9, 10, 11, 12, 13, 14].map (bfALL K g z9 y0)).flatten) := by rw [asc2]; exact wbALL_perm [8, 3, 0, 1, 2, 4, 5, 6, 7, 9, 10, 11, 12, 13, 14] (by decide)
    refine z_V (n := 1) (As := [.ref (g 3 0)]) (rest := []) (ci := 2) (q0 := 0) X hK hN (kX2_takeStops l D K (g 8) (g 3) (z9 8) (z9 3) _ h11 hc12) (bw_V W12_23 W13_0 W13_1 W1_18 W13_2) rfl ⟨rfl, rfl⟩ (by decide +kernel) rfl ⟨Nat.le_of_ble_eq_true rfl, Nat.le_of_ble_eq_true rfl⟩ (hP.perm hp14).lef (hD.perm hp14).lef rfl rfl (zj_perm (ws' := wbALL K g z13 y0) hP hD hS hA hp14 (by rw [ez13, asc2]; refine List.Perm.symm ?_; exact wbALL_perm [8, 3, 0, 1, 2, 4, 5, 6, 7, 9, 10, 11, 12, 13, 14] (by decide))) hS hl.1 rfl (Nat.le_of_ble_eq_true rfl) dX8_freshen_49 ⟨Nat.zero_le _, Nat.zero_le _⟩ rfl (fun H locs hP hD hS => ?_)
    refine lv_aload_n X.1 X.2.1 dX8_freshen_52 rfl (lv_at hl 0 rfl) ?_
    refine z_get X hK hP hiX8 0 rfl rfl 3 (by decide) (bw_in W1_23) rfl dX8_freshen_53 ?_
    refine lv_aload_n X.1 X.2.1 dX8_freshen_56 rfl (lv_at hl 0 rfl) ?_
    refine z_get X hK hP hiX8 0 rfl rfl 2 (by decide) (bw_in W1_19) rfl dX8_freshen_57 ?_
    obtain ⟨r15, hc16, hf⟩ := bd1_e hf
    have hp17 : List.Perm (wbALL K g z13 y0) ((wbX2 K (g 8) (z13 8)) ++ ([0, 1, 2, 3, 4, 5, 6, 7, 9, 10, 11, 12, 13, 14].map (bfALL K g z13 y0)).flatten) := wbALL_perm [8, 0, 1, 2, 3, 4, 5, 6, 7, 9, 10, 11, 12, 13, 14] (by decide)
    refine z_V (n := 0) (As := []) (rest := [.ref (g 9 0)]) (ci := 2) (q0 := 0) X hK hN (kX2_allLeavers l D K (g 8) (z13 8) _ r15 hc16) (bw_V W13_3 W13_4 W13_5 W1_18 W13_6) rfl ⟨rfl, rfl⟩ (by decide +kernel) rfl ⟨Nat.le_of_ble_eq_true rfl, Nat.le_of_ble_eq_true rfl⟩ (hP.perm hp17).lef (hD.perm hp17).lef rfl rfl (zj_perm (ws' := wbALL K g z13 y0) hP hD hS hA hp17 (by refine List.Perm.symm ?_; exact wbALL_perm [8, 0, 1, 2, 3, 4, 5, 6, 7, 9, 10, 11, 12, 13, 14] (by decide))) hS hl.1 rfl (Nat.le_of_ble_eq_true rfl) dX8_freshen_60 ⟨Nat.zero_le _, Nat.zero_le _⟩ rfl (fun H locs hP hD hS => ?_)
    obtain ⟨r18, hc19, hf⟩ := bd1_e hf
    obtain ⟨z20, ez20, hf⟩ := stp_e hf
    have hp21 : List.Perm (wbALL K g z13 y0) ((wbX2 K (g 8) (z13 8) ++ (wbX4 K (g 8 0) (g 9) (z13 9))) ++ ([0, 1, 2, 3, 4, 5, 6, 7, 10, 11, 12, 13, 14].map (bfALL K g z13 y0)).flatten) := by rw [asc2]; exact wbALL_perm [8, 9, 0, 1, 2, 3, 4, 5, 6, 7, 10, 11, 12, 13, 14] (by decide)
    refine z_V (n := 1) (As := [.int r15]) (rest := []) (ci := 4) (q0 := 9) X hK hN (kX4_begin l D K (g 8) (g 9) (z13 8) (z13 9) _ r15 r18 hc19) (bw_V W13_7 W13_8 W13_9 W1_22 W13_10) rfl ⟨rfl, rfl⟩ (by decide +kernel) rfl ⟨Nat.le_of_ble_eq_true rfl, Nat.le_of_ble_eq_true rfl⟩ (hP.perm hp21).lef (hD.perm hp21).lef rfl rfl (zj_perm (ws' := wbALL K g z20 y0) hP hD hS hA hp21 (by rw [ez20, asc2]; refine List.Perm.symm ?_; exact wbALL_perm [8, 9, 0, 1, 2, 3, 4, 5, 6, 7, 10, 11, 12, 13, 14] (by decide))) hS hl.1 rfl (Nat.le_of_ble_eq_true rfl) dX8_freshen_63 ⟨Nat.zero_le _, Nat.zero_le _⟩ rfl (fun H locs hP hD hS => ?_)
    refine lv_aload_n X.1 X.2.1 dX8_freshen_66 rfl (lv_at hl 0 rfl) ?_
    refine z_get X hK hP hiX8 0 rfl rfl 3 (by decide) (bw_in W1_23) rfl dX8_freshen_67 ?_
    refine lv_iconst (v := -1) X.1 X.2.1 dX8_freshen_70 (by decide) ?_
    refine lv_iconst (v := -1) X.1 X.2.1 dX8_freshen_71 (by decide) ?_
    obtain ⟨r22, hc23, hf⟩ := bd1_e hf
    obtain ⟨z24, ez24, hf⟩ := stp_e hf
    have hp25 : List.Perm (wbALL K g z20 y0) ((wbX2 K (g 8) (z20 8) ++ (wbX4 K (g 8 0) (g 9) (z20 9))) ++ ([0, 1, 2, 3, 4, 5, 6, 7, 10, 11, 12, 13, 14].map (bfALL K g z20 y0)).flatten) := by rw [asc2]; exact wbALL_perm [8, 9, 0, 1, 2, 3, 4, 5, 6, 7, 10, 11, 12, 13, 14] (by decide)
    refine z_V (n := 2) (As := [.int ((-1)), .int ((-1))]) (rest := []) (ci := 4) (q0 := 9) X hK hN (kX4_goToStops l D K (g 8) (g 9) (z20 8) (z20 9) _ ((-1)) ((-1)) r22 hc23) (bw_V W13_22 W13_23 W14_0 W1_22 W14_1) rfl ⟨rfl, rfl⟩ (by decide +kernel) rfl ⟨Nat.le_of_ble_eq_true rfl, Nat.le_of_ble_eq_true rfl⟩ (hP.perm hp25).lef (hD.perm hp25).lef rfl rfl (zj_perm (ws' := wbALL K g z24 y0) hP hD hS hA hp25 (by rw [ez24, asc2]; refine List.Perm.symm ?_; exact wbALL_perm [8, 9, 0, 1, 2, 3, 4, 5, 6, 7, 10, 11, 12, 13, 14] (by decide))) hS hl.1 rfl (Nat.le_of_ble_eq_true rfl) dX8_freshen_72 ⟨Nat.zero_le _, Nat.zero_le _⟩ rfl (fun H locs hP hD hS => ?_)
    refine lv_aload_n X.1 X.2.1 dX8_freshen_75 rfl (lv_at hl 0 rfl) ?_
    refine z_get X hK hP hiX8 0 rfl rfl 5 (by decide) (bw_in W2_4) rfl dX8_freshen_76 ?_
    obtain ⟨p26, hc27, hf⟩ := bd1_e hf
    obtain ⟨z28, ez28, hf⟩ := stp_e hf
    have hp29 : List.Perm (wbALL K g z24 y0) ((wbX2 K (g 8) (z24 8) ++ (wbX4 K (g 8 0) (g 10) (z24 10) ++ (wbX3 K (g 8 0) (g 10 0) (g 11) (z24 11) (y0 11)))) ++ ([0, 1, 2, 3, 4, 5, 6, 7, 9, 12, 13, 14].map (bfALL K g z24 y0)).flatten) := by rw [asc3]; exact wbALL_perm [8, 10, 11, 0, 1, 2, 3, 4, 5, 6, 7, 9, 12, 13, 14] (by decide)
    refine z_V (n := 0) (As := []) (rest := []) (ci := 3) (q0 := 19) X hK hN (kX3_outdate l D K (g 8) (g 10) (g 11) (z24 8) (z24 10) (z24 11) (y0 11) _ p26 hc27) (bw_V W15_16 W15_17 W15_18 W2_3 W15_19) rfl ⟨rfl, rfl⟩ (by decide +kernel) rfl ⟨Nat.le_of_ble_eq_true rfl, Nat.le_of_ble_eq_true rfl⟩ (hP.perm hp29).lef (hD.perm hp29).lef rfl rfl (zj_perm (ws' := wbALL K g z28 y0) hP hD hS hA hp29 (by rw [ez28, asc3]; refine List.Perm.symm ?_; exact wbALL_perm [8, 10, 11, 0, 1, 2, 3, 4, 5, 6, 7, 9, 12, 13, 14] (by decide))) hS hl.1 rfl (Nat.le_of_ble_eq_true rfl) dX8_freshen_79 ⟨Nat.zero_le _, Nat.zero_le _⟩ rfl (fun H locs hP hD hS => ?_)
    refine lv_aload_n X.1 X.2.1 dX8_freshen_82 rfl (lv_at hl 0 rfl) ?_
    refine z_get X hK hP hiX8 0 rfl rfl 6 (by decide) (bw_in W2_8) rfl dX8_freshen_83 ?_
    obtain ⟨c30, hc31, hf⟩ := bd1_e hf
    obtain ⟨z32, ez32, hf⟩ := stp_e hf
    have hp33 : List.Perm (wbALL K g z28 y0) ((wbX2 K (g 8) (z28 8) ++ (wbX4 K (g 8 0) (g 10) (z28 10) ++ (wbX0 K (g 8 0) (g 10 0) (g 12) (z28 12) (y0 12)))) ++ ([0, 1, 2, 3, 4, 5, 6, 7, 9, 11, 13, 14].map (bfALL K g z28 y0)).flatten) := by rw [asc3]; exact wbALL_perm [8, 10, 12, 0, 1, 2, 3, 4, 5, 6, 7, 9, 11, 13, 14] (by decide)
    refine z_V (n := 0) (As := []) (rest := []) (ci := 0) (q0 := 19) X hK hN (kX0_outdate l D K (g 8) (g 10) (g 12) (z28 8) (z28 10) (z28 12) (y0 12) _ c30 hc31) (bw_V W15_20 W15_21 W15_22 W2_7 W15_23) rfl ⟨rfl, rfl⟩ (by decide +kernel) rfl ⟨Nat.le_of_ble_eq_true rfl, Nat.le_of_ble_eq_true rfl⟩ (hP.perm hp33).lef (hD.perm hp33).lef rfl rfl (zj_perm (ws' := wbALL K g z32 y0) hP hD hS hA hp33 (by rw [ez32, asc3]; refine List.Perm.symm ?_; exact wbALL_perm [8, 10, 12, 0, 1, 2, 3, 4, 5, 6, 7, 9, 11, 13, 14] (by decide))) hS hl.1 rfl (Nat.le_of_ble_eq_true rfl) dX8_freshen_86 ⟨Nat.zero_le _, Nat.zero_le _⟩ rfl (fun H locs hP hD hS => ?_)
    obtain rfl := z_inj1 hf
    exact z_vret X hr hlk hP hD hS dX8_freshen_89
  · have hf := ite_t hf c1
    obtain rfl := z_inj1 hf
    exact z_vret X hr hlk hP hD hS dX8_freshen_7
abbrev rmX8_arrived : Room := { frames := 5, cells := 0, slots := 0, locals := 118 }
set_option maxHeartbeats 4000000 in
set_option maxRecDepth 100000 in
theorem kX8_arrived (l : Launch) (D : va_G) (K : Nat → ClassId) (g : Nat → Nat → Nat) (z0 : Nat → St) (y0 : Nat → Lt) (sz : Nat) (x1 : Int32) (q_ : Int32) (z_ : Nat → St) (hf : fX8_arrived z0 y0 x1 = some (q_, z_)) : Met l yX8_arrived (bw (Cond.code yX8_arrived cX8_arrived 2 (some .int))) rmX8_arrived (va_Pc [.ref (g 0 0), .int x1] (zB D K sz (wbALL K g z0 y0))) (zQ (some (.int q_)) D (va_A (wbALL K g z0 y0) sz) (wbALL K g z_ y0)) 0 0 (va_A (wbALL K g z0 y0) sz) := by
  refine z_of (cc := cX8_arrived) (maxL := 2) (ret := (some .int)) (own := RX8) (lv := [(0, .ref (g 0 0)), (1, .int x1)]) (by decide) rfl rfl (Nat.le_of_ble_eq_true rfl) rfl ?_
  intro p e s m below meth c X hr hlk hK hN hsz hP hD hA hS hin ls hl
  generalize va_A (wbALL K g z0 y0) sz = A at hD hA hS hN ⊢
  have hiX4 : ∀ w ∈ u_ws RX4 TX4 12, w ∈ (bw (Cond.code yX8_arrived cX8_arrived 2 (some .int))) := fun w h => bw_in (inlX4 w h)
  have hiX8 : ∀ w ∈ u_ws RX8 TX8 11, w ∈ (bw (Cond.code yX8_arrived cX8_arrived 2 (some .int))) := fun w h => bw_in (inlX8 w h)
  rw [fX8_arrived] at hf
  refine lv_iload_n X.1 X.2.1 dX8_arrived_0 rfl (lv_at hl 1 rfl) ?_
  obtain ⟨r1, hc2, hf⟩ := bd1_e hf
  refine z_S (n := 1) (As := [.int x1]) (rest := []) X hK hN (kX8_noSuchStep l D K _ x1 r1 hc2) (bw_S W18_20 W18_21 W1_2 W18_22) rfl ⟨rfl, rfl⟩ (by decide +kernel) rfl ⟨Nat.le_of_ble_eq_true rfl, Nat.le_of_ble_eq_true rfl⟩ (fun _ _ h => by simp at h) ⟨fun _ _ _ _ h => by simp at h, fun _ _ h => by simp at h⟩ (zj_none hP hD hS hA) hS hl.1 rfl (Nat.le_of_ble_eq_true rfl) dX8_arrived_1 ⟨Nat.zero_le _, Nat.zero_le _⟩ rfl (fun H locs hP hD hS => ?_)
  refine lv_if_eq (tgt := 10) X.1 X.2.1 dX8_arrived_4 (by decide) (fun c3 => ?_) (fun c3 => ?_)
  · have hf := ite_t hf c3
    refine lv_aload_n X.1 X.2.1 dX8_arrived_10 rfl (lv_at hl 0 rfl) ?_
    obtain ⟨z4, hc5, hf⟩ := bd1_e hf
    refine z_V (n := 0) (As := []) (rest := []) (ci := 8) (q0 := 0) X hK hN (kX8_freshen l D K g z0 y0 _ z4 hc5) (bw_V W11_14 W11_15 W11_16 W1_2 W11_17) rfl ⟨rfl, rfl⟩ (by decide +kernel) rfl ⟨Nat.le_of_ble_eq_true rfl, Nat.le_of_ble_eq_true rfl⟩ hP hD rfl rfl (zj_same hD hS hA) hS hl.1 rfl (Nat.le_of_ble_eq_true rfl) dX8_arrived_11 ⟨Nat.zero_le _, Nat.zero_le _⟩ rfl (fun H locs hP hD hS => ?_)
    refine lv_aload_n X.1 X.2.1 dX8_arrived_14 rfl (lv_at hl 0 rfl) ?_
    refine z_get X hK hP hiX8 0 rfl rfl 3 (by decide) (bw_in W1_23) rfl dX8_arrived_15 ?_
    refine z_get X hK hP hiX4 26 rfl rfl 7 (by decide) (bw_in W24_23) rfl dX8_arrived_18 ?_
    refine lv_aload_n X.1 X.2.1 dX8_arrived_21 rfl (lv_at hl 0 rfl) ?_
    refine z_get X hK hP hiX8 0 rfl rfl 3 (by decide) (bw_in W1_23) rfl dX8_arrived_22 ?_
    refine lv_iload_n X.1 X.2.1 dX8_arrived_25 rfl (lv_at hl 1 rfl) ?_
    obtain ⟨r6, hc7, hf⟩ := bd1_e hf
    have hp8 : List.Perm (wbALL K g z4 y0) ((wbX2 K (g 8) (z4 8) ++ (wbX4 K (g 8 0) (g 9) (z4 9))) ++ ([0, 1, 2, 3, 4, 5, 6, 7, 10, 11, 12, 13, 14].map (bfALL K g z4 y0)).flatten) := by rw [asc2]; exact wbALL_perm [8, 9, 0, 1, 2, 3, 4, 5, 6, 7, 10, 11, 12, 13, 14] (by decide)
    refine z_V (n := 1) (As := [.int x1]) (rest := [.ref (g 9 8)]) (ci := 4) (q0 := 9) X hK hN (kX4_rowBehind l D K (g 8) (g 9) (z4 8) (z4 9) _ x1 r6 hc7) (bw_V W25_0 W19_4 W19_5 W1_22 W19_6) rfl ⟨rfl, rfl⟩ (by decide +kernel) rfl ⟨Nat.le_of_ble_eq_true rfl, Nat.le_of_ble_eq_true rfl⟩ (hP.perm hp8).lef (hD.perm hp8).lef rfl rfl (zj_perm (ws' := wbALL K g z4 y0) hP hD hS hA hp8 (by rw [asc2]; refine List.Perm.symm ?_; exact wbALL_perm [8, 9, 0, 1, 2, 3, 4, 5, 6, 7, 10, 11, 12, 13, 14] (by decide))) hS hl.1 rfl (Nat.le_of_ble_eq_true rfl) dX8_arrived_26 ⟨Nat.zero_le _, Nat.zero_le _⟩ rfl (fun H locs hP hD hS => ?_)
    obtain ⟨hi10, hf⟩ := chk_e hf
    obtain ⟨v9, ev9, hf⟩ := stp_e hf
    refine z_iald X hK hP 33 rfl hi10 ev9 dX8_arrived_29 ?_
    obtain ⟨rfl, rfl⟩ := z_inj2 hf
    exact z_iret X hr hlk hP hD hS dX8_arrived_30
  · have hf := ite_f hf c3
    refine lv_bipush (v := -2) X.1 X.2.1 dX8_arrived_7 (by decide) ?_
    obtain ⟨rfl, rfl⟩ := z_inj2 hf
    exact z_iret X hr hlk hP hD hS dX8_arrived_9
abbrev rmX8_noSuchSheet : Room := { frames := 0, cells := 0, slots := 0, locals := 0 }
set_option maxHeartbeats 4000000 in
set_option maxRecDepth 100000 in
theorem kX8_noSuchSheet (l : Launch) (D : va_G) (K : Nat → ClassId)   (sz : Nat) (x1 : Int32) (q_ : Int32) (hf : fX8_noSuchSheet x1 = some q_) : Met l yX8_noSuchSheet (bw (Cond.code yX8_noSuchSheet cX8_noSuchSheet 1 (some .boolean))) rmX8_noSuchSheet (va_Pc [.int x1] (zB D K sz (([] : va_W)))) (zQ (some (.int q_)) D (va_A (([] : va_W)) sz) (([] : va_W))) 0 0 (va_A (([] : va_W)) sz) := by
  refine z_of (cc := cX8_noSuchSheet) (maxL := 1) (ret := (some .boolean)) (own := RX8) (lv := [(0, .int x1)]) (by decide) rfl rfl (Nat.le_of_ble_eq_true rfl) rfl ?_
  intro p e s m below meth c X hr hlk hK hN hsz hP hD hA hS hin ls hl
  generalize va_A (([] : va_W)) sz = A at hD hA hS hN ⊢
  rw [fX8_noSuchSheet] at hf
  refine lv_iload_n X.1 X.2.1 dX8_noSuchSheet_0 rfl (lv_at hl 0 rfl) ?_
  refine lv_if_lt (tgt := 9) X.1 X.2.1 dX8_noSuchSheet_1 (by decide) (fun c1 => ?_) (fun c1 => ?_)
  · have hf := ite_t hf c1
    refine lv_iconst (v := 1) X.1 X.2.1 dX8_noSuchSheet_9 (by decide) ?_
    refine lv_goto (tgt := 14) X.1 X.2.1 dX8_noSuchSheet_10 (by decide) ?_
    obtain rfl := z_inj1 hf
    exact z_zret X hr hlk (by decide) hP hD hS dX8_noSuchSheet_14
  · have hf := ite_f hf c1
    refine lv_iload_n X.1 X.2.1 dX8_noSuchSheet_4 rfl (lv_at hl 0 rfl) ?_
    refine lv_iconst (v := 4) X.1 X.2.1 dX8_noSuchSheet_5 (by decide) ?_
    refine lv_icmp_lt (tgt := 13) X.1 X.2.1 dX8_noSuchSheet_6 (by decide) (fun c2 => ?_) (fun c2 => ?_)
    · have hf := ite_t hf c2
      refine lv_iconst (v := 0) X.1 X.2.1 dX8_noSuchSheet_13 (by decide) ?_
      obtain rfl := z_inj1 hf
      exact z_zret X hr hlk (by decide) hP hD hS dX8_noSuchSheet_14
    · have hf := ite_f hf c2
      refine lv_iconst (v := 1) X.1 X.2.1 dX8_noSuchSheet_9 (by decide) ?_
      refine lv_goto (tgt := 14) X.1 X.2.1 dX8_noSuchSheet_10 (by decide) ?_
      obtain rfl := z_inj1 hf
      exact z_zret X hr hlk (by decide) hP hD hS dX8_noSuchSheet_14
abbrev rmX8_find : Room := { frames := 0, cells := 0, slots := 0, locals := 0 }
set_option maxHeartbeats 4000000 in
set_option maxRecDepth 100000 in
theorem kX8_find (l : Launch) (D : va_G) (K : Nat → ClassId) (g : Nat → Nat → Nat) (z0 : Nat → St) (y0 : Nat → Lt) (sz : Nat) (x1 : Int32) (q_ : Int32) (z_ : Nat → St) (hf : fX8_find z0 y0 x1 = some (q_, z_)) : Met l yX8_find (bw (Cond.code yX8_find cX8_find 2 (some .int))) rmX8_find (va_Pc [.ref (g 0 0), .int x1] (zB D K sz (wbALL K g z0 y0))) (zQ (some (.int q_)) D (va_A (wbALL K g z0 y0) sz) (wbALL K g z_ y0)) 0 0 (va_A (wbALL K g z0 y0) sz) := by
  refine z_of (cc := cX8_find) (maxL := 2) (ret := (some .int)) (own := RX8) (lv := [(0, .ref (g 0 0)), (1, .int x1)]) (by decide) rfl rfl (Nat.le_of_ble_eq_true rfl) rfl ?_
  intro p e s m below meth c X hr hlk hK hN hsz hP hD hA hS hin ls hl
  generalize va_A (wbALL K g z0 y0) sz = A at hD hA hS hN ⊢
  have hiX8 : ∀ w ∈ u_ws RX8 TX8 11, w ∈ (bw (Cond.code yX8_find cX8_find 2 (some .int))) := fun w h => bw_in (inlX8 w h)
  rw [fX8_find] at hf
  refine lv_aload_n X.1 X.2.1 dX8_find_0 rfl (lv_at hl 0 rfl) ?_
  refine lv_iload_n X.1 X.2.1 dX8_find_1 rfl (lv_at hl 1 rfl) ?_
  obtain ⟨z1, ez1, hf⟩ := stp_e hf
  refine z_put (ws' := wbALL K g z1 y0) X hK hP hD hS hiX8 tyX8_ok nmX8 0 rfl rfl 9 (by decide) (bw_in W2_17) rfl rfl rfl (Nat.le_of_ble_eq_true rfl) dX8_find_2 (by rw [ez1]; rfl) (fun H locs hP hD hS => ?_)
  refine lv_bipush (v := -10) X.1 X.2.1 dX8_find_5 (by decide) ?_
  refine lv_iload_n X.1 X.2.1 dX8_find_7 rfl (lv_at hl 1 rfl) ?_
  refine lv_isub X.1 X.2.1 dX8_find_8 ?_
  obtain ⟨rfl, rfl⟩ := z_inj2 hf
  exact z_iret X hr hlk hP hD hS dX8_find_9
abbrev rmX8_copy : Room := { frames := 1, cells := 0, slots := 0, locals := 39 }
set_option maxHeartbeats 4000000 in
set_option maxRecDepth 100000 in
theorem kX8_copy (l : Launch) (D : va_G) (K : Nat → ClassId) (g : Nat → Nat → Nat) (z0 : Nat → St) (y0 : Nat → Lt) (sz : Nat) (x1 : Int32) (x2 : Int32) (x3 : Int32) (x4 : Int32) (x5 : Int32) (q_ : Int32) (z_ : Nat → St) (hf : fX8_copy z0 y0 x1 x2 x3 x4 x5 = some (q_, z_)) : Met l yX8_copy (bw (Cond.code yX8_copy cX8_copy 8 (some .int))) rmX8_copy (va_Pc [.ref (g 0 0), .int x1, .int x2, .int x3, .int x4, .int x5] (zB D K sz (wbALL K g z0 y0))) (zQ (some (.int q_)) D (va_A (wbALL K g z0 y0) sz) (wbALL K g z_ y0)) 0 0 (va_A (wbALL K g z0 y0) sz) := by
  refine z_of (cc := cX8_copy) (maxL := 8) (ret := (some .int)) (own := RX8) (lv := [(0, .ref (g 0 0)), (1, .int x1), (2, .int x2), (3, .int x3), (4, .int x4), (5, .int x5)]) (by decide) rfl rfl (Nat.le_of_ble_eq_true rfl) rfl ?_
  intro p e s m below meth c X hr hlk hK hN hsz hP hD hA hS hin ls hl
  generalize va_A (wbALL K g z0 y0) sz = A at hD hA hS hN ⊢
  have hiX5 : ∀ w ∈ u_ws RX5 TX5 4, w ∈ (bw (Cond.code yX8_copy cX8_copy 8 (some .int))) := fun w h => bw_in (inlX5 w h)
  have hiX8 : ∀ w ∈ u_ws RX8 TX8 11, w ∈ (bw (Cond.code yX8_copy cX8_copy 8 (some .int))) := fun w h => bw_in (inlX8 w h)
  rw [fX8_copy] at hf
  refine lv_iload_n X.1 X.2.1 dX8_copy_0 rfl (lv_at hl 1 rfl) ?_
  obtain ⟨r1, hc2, hf⟩ := bd1_e hf
  refine z_S (n := 1) (As := [.int x1]) (rest := []) X hK hN (kX8_noSuchSheet l D K _ x1 r1 hc2) (bw_S W31_13 W31_14 W1_2 W31_15) rfl ⟨rfl, rfl⟩ (by decide +kernel) rfl ⟨Nat.le_of_ble_eq_true rfl, Nat.le_of_ble_eq_true rfl⟩ (fun _ _ h => by simp at h) ⟨fun _ _ _ _ h => by simp at h, fun _ _ h => by simp at h⟩ (zj_none hP hD hS hA) hS hl.1 rfl (Nat.le_of_ble_eq_true rfl) dX8_copy_1 ⟨Nat.zero_le _, Nat.zero_le _⟩ rfl (fun H locs hP hD hS => ?_)
  refine lv_if_ne (tgt := 14) X.1 X.2.1 dX8_copy_4 (by decide) (fun c3 => ?_) (fun c3 => ?_)
  · have hf := ite_f hf c3
    refine lv_bipush (v := -2) X.1 X.2.1 dX8_copy_14 (by decide) ?_
    obtain ⟨rfl, rfl⟩ := z_inj2 hf
    exact z_iret X hr hlk hP hD hS dX8_copy_16
  · have hf := ite_t hf c3
    refine lv_iload_n X.1 X.2.1 dX8_copy_7 rfl (lv_at hl 3 rfl) ?_
    obtain ⟨r4, hc5, hf⟩ := bd1_e hf
    refine z_S (n := 1) (As := [.int x3]) (rest := []) X hK hN (kX8_noSuchSheet l D K _ x3 r4 hc5) (bw_S W31_13 W31_14 W1_2 W31_15) rfl ⟨rfl, rfl⟩ (by decide +kernel) rfl ⟨Nat.le_of_ble_eq_true rfl, Nat.le_of_ble_eq_true rfl⟩ (fun _ _ h => by simp at h) ⟨fun _ _ _ _ h => by simp at h, fun _ _ h => by simp at h⟩ (zj_none hP hD hS hA) hS hl.1 rfl (Nat.le_of_ble_eq_true rfl) dX8_copy_8 ⟨Nat.zero_le _, Nat.zero_le _⟩ rfl (fun H locs hP hD hS => ?_)
    refine lv_if_eq (tgt := 17) X.1 X.2.1 dX8_copy_11 (by decide) (fun c6 => ?_) (fun c6 => ?_)
    · have hf := ite_t hf c6
      refine lv_aload_n X.1 X.2.1 dX8_copy_17 rfl (lv_at hl 0 rfl) ?_
      refine z_get X hK hP hiX8 0 rfl rfl 1 (by decide) (bw_in W1_15) rfl dX8_copy_18 ?_
      refine lv_iload_n X.1 X.2.1 dX8_copy_21 rfl (lv_at hl 1 rfl) ?_
      by_cases c7 : x1 = 0
      · have hf := ite_t hf c7
        refine z_aald X hK hP 2 3 rfl rfl (by rw [c7]; exact vp_lit _ _ (by decide)) (by rw [c7] <;> rfl) dX8_copy_22 ?_
        refine lv_astore (lv' := [(6, .ref (g 4 0)), (0, .ref (g 0 0)), (1, .int x1), (2, .int x2), (3, .int x3), (4, .int x4), (5, .int x5)]) X.1 X.2.1 dX8_copy_23 hl (by decide) rfl (fun ls hl => ?_)
        refine lv_aload_n X.1 X.2.1 dX8_copy_25 rfl (lv_at hl 1 rfl) ?_
        refine z_get X hK hP hiX8 0 rfl rfl 1 (by decide) (bw_in W1_15) rfl dX8_copy_26 ?_
        refine lv_iload_n X.1 X.2.1 dX8_copy_29 rfl (lv_at hl 4 rfl) ?_
        by_cases c8 : x3 = 0
        · have hf := ite_t hf c8
          refine z_aald X hK hP 2 3 rfl rfl (by rw [c8]; exact vp_lit _ _ (by decide)) (by rw [c8] <;> rfl) dX8_copy_30 ?_
          refine lv_astore (lv' := [(7, .ref (g 4 0)), (6, .ref (g 4 0)), (0, .ref (g 0 0)), (1, .int x1), (2, .int x2), (3, .int x3), (4, .int x4), (5, .int x5)]) X.1 X.2.1 dX8_copy_31 hl (by decide) rfl (fun ls hl => ?_)
          refine lv_aload X.1 X.2.1 dX8_copy_33 (lv_at hl 1 rfl) ?_
          refine z_get X hK hP hiX5 9 rfl rfl 0 (by decide) (bw_in W31_10) rfl dX8_copy_35 ?_
          refine lv_if_ne (tgt := 49) X.1 X.2.1 dX8_copy_38 (by decide) (fun c9 => ?_) (fun c9 => ?_)
          · have hf := ite_f hf c9
            refine lv_aload_n X.1 X.2.1 dX8_copy_49 rfl (lv_at hl 2 rfl) ?_
            refine lv_iconst (v := 1) X.1 X.2.1 dX8_copy_50 (by decide) ?_
            obtain ⟨r10, z11, hc12, hf⟩ := bd2_e hf
            refine z_V (n := 1) (As := [.int 1]) (rest := []) (ci := 8) (q0 := 0) X hK hN (kX8_find l D K g z0 y0 _ 1 r10 z11 hc12) (bw_V W31_16 W31_17 W31_18 W1_2 W31_19) rfl ⟨rfl, rfl⟩ (by decide +kernel) rfl ⟨Nat.le_of_ble_eq_true rfl, Nat.le_of_ble_eq_true rfl⟩ hP hD rfl rfl (zj_same hD hS hA) hS hl.1 rfl (Nat.le_of_ble_eq_true rfl) dX8_copy_51 ⟨Nat.zero_le _, Nat.zero_le _⟩ rfl (fun H locs hP hD hS => ?_)
            obtain ⟨rfl, rfl⟩ := z_inj2 hf
            exact z_iret X hr hlk hP hD hS dX8_copy_54
          · have hf := ite_t hf c9
            refine lv_aload X.1 X.2.1 dX8_copy_41 (lv_at hl 0 rfl) ?_
            refine z_get X hK hP hiX5 9 rfl rfl 0 (by decide) (bw_in W31_10) rfl dX8_copy_43 ?_
            refine lv_if_eq (tgt := 55) X.1 X.2.1 dX8_copy_46 (by decide) (fun _ => ?_) (fun c => absurd c9 c)
            refine lv_aload X.1 X.2.1 dX8_copy_55 (lv_at hl 1 rfl) ?_
            refine z_get X hK hP hiX5 9 rfl rfl 1 (by decide) (bw_in W41_3) rfl dX8_copy_57 ?_
            refine lv_aload X.1 X.2.1 dX8_copy_60 (lv_at hl 0 rfl) ?_
            refine z_get X hK hP hiX5 9 rfl rfl 1 (by decide) (bw_in W41_3) rfl dX8_copy_62 ?_
            refine lv_icmp_eq (tgt := 74) X.1 X.2.1 dX8_copy_65 (by decide) (fun c13 => ?_) (fun c13 => ?_)
            · have hf := ite_t hf c13
              refine lv_aload X.1 X.2.1 dX8_copy_74 (lv_at hl 1 rfl) ?_
              refine lv_iload_n X.1 X.2.1 dX8_copy_76 rfl (lv_at hl 4 rfl) ?_
              refine lv_iload X.1 X.2.1 dX8_copy_77 (lv_at hl 7 rfl) ?_
              obtain ⟨r14, hc15, hf⟩ := bd1_e hf
              have hp16 : List.Perm (wbALL K g z0 y0) ((wbX5 K (g 4) (z0 4)) ++ ([0, 1, 2, 3, 5, 6, 7, 8, 9, 10, 11, 12, 13, 14].map (bfALL K g z0 y0)).flatten) := wbALL_perm [4, 0, 1, 2, 3, 5, 6, 7, 8, 9, 10, 11, 12, 13, 14] (by decide)
              refine z_V (n := 2) (As := [.int x2, .int x5]) (rest := []) (ci := 5) (q0 := 0) X hK hN (kX5_holds l D K (g 4) (z0 4) _ x2 x5 r14 hc15) (bw_V W41_8 W41_9 W41_10 W2_22 W41_11) rfl ⟨rfl, rfl⟩ (by decide +kernel) rfl ⟨Nat.le_of_ble_eq_true rfl, Nat.le_of_ble_eq_true rfl⟩ (hP.perm hp16).lef (hD.perm hp16).lef rfl rfl (zj_perm (ws' := wbALL K g z0 y0) hP hD hS hA hp16 (by refine List.Perm.symm ?_; exact wbALL_perm [4, 0, 1, 2, 3, 5, 6, 7, 8, 9, 10, 11, 12, 13, 14] (by decide))) hS hl.1 rfl (Nat.le_of_ble_eq_true rfl) dX8_copy_79 ⟨Nat.zero_le _, Nat.zero_le _⟩ rfl (fun H locs hP hD hS => ?_)
              refine lv_if_eq (tgt := 97) X.1 X.2.1 dX8_copy_82 (by decide) (fun c17 => ?_) (fun c17 => ?_)
              · have hf := ite_t hf c17
                refine lv_aload_n X.1 X.2.1 dX8_copy_97 rfl (lv_at hl 2 rfl) ?_
                refine lv_iconst (v := 2) X.1 X.2.1 dX8_copy_98 (by decide) ?_
                obtain ⟨r18, z19, hc20, hf⟩ := bd2_e hf
                refine z_V (n := 1) (As := [.int 2]) (rest := []) (ci := 8) (q0 := 0) X hK hN (kX8_find l D K g z0 y0 _ 2 r18 z19 hc20) (bw_V W31_16 W31_17 W31_18 W1_2 W31_19) rfl ⟨rfl, rfl⟩ (by decide +kernel) rfl ⟨Nat.le_of_ble_eq_true rfl, Nat.le_of_ble_eq_true rfl⟩ hP hD rfl rfl (zj_same hD hS hA) hS hl.1 rfl (Nat.le_of_ble_eq_true rfl) dX8_copy_99 ⟨Nat.zero_le _, Nat.zero_le _⟩ rfl (fun H locs hP hD hS => ?_)
                obtain ⟨rfl, rfl⟩ := z_inj2 hf
                exact z_iret X hr hlk hP hD hS dX8_copy_102
              · have hf := ite_f hf c17
                refine lv_aload X.1 X.2.1 dX8_copy_85 (lv_at hl 0 rfl) ?_
                refine lv_iload X.1 X.2.1 dX8_copy_87 (lv_at hl 6 rfl) ?_
                refine lv_iload X.1 X.2.1 dX8_copy_89 (lv_at hl 7 rfl) ?_
                obtain ⟨r21, hc22, hf⟩ := bd1_e hf
                have hp23 : List.Perm (wbALL K g z0 y0) ((wbX5 K (g 4) (z0 4)) ++ ([0, 1, 2, 3, 5, 6, 7, 8, 9, 10, 11, 12, 13, 14].map (bfALL K g z0 y0)).flatten) := wbALL_perm [4, 0, 1, 2, 3, 5, 6, 7, 8, 9, 10, 11, 12, 13, 14] (by decide)
                refine z_V (n := 2) (As := [.int x4, .int x5]) (rest := []) (ci := 5) (q0 := 0) X hK hN (kX5_holds l D K (g 4) (z0 4) _ x4 x5 r21 hc22) (bw_V W41_8 W41_9 W41_10 W2_22 W41_11) rfl ⟨rfl, rfl⟩ (by decide +kernel) rfl ⟨Nat.le_of_ble_eq_true rfl, Nat.le_of_ble_eq_true rfl⟩ (hP.perm hp23).lef (hD.perm hp23).lef rfl rfl (zj_perm (ws' := wbALL K g z0 y0) hP hD hS hA hp23 (by refine List.Perm.symm ?_; exact wbALL_perm [4, 0, 1, 2, 3, 5, 6, 7, 8, 9, 10, 11, 12, 13, 14] (by decide))) hS hl.1 rfl (Nat.le_of_ble_eq_true rfl) dX8_copy_91 ⟨Nat.zero_le _, Nat.zero_le _⟩ rfl (fun H locs hP hD hS => ?_)
                refine lv_if_ne (tgt := 103) X.1 X.2.1 dX8_copy_94 (by decide) (fun c24 => ?_) (fun c24 => ?_)
                · have hf := ite_f hf c24
                  refine lv_aload X.1 X.2.1 dX8_copy_103 (lv_at hl 1 rfl) ?_
                  refine z_get X hK hP hiX5 9 rfl rfl 3 (by decide) (bw_in W31_12) rfl dX8_copy_105 ?_
                  refine lv_iload_n X.1 X.2.1 dX8_copy_108 rfl (lv_at hl 4 rfl) ?_
                  refine lv_aload X.1 X.2.1 dX8_copy_109 (lv_at hl 0 rfl) ?_
                  refine z_get X hK hP hiX5 9 rfl rfl 3 (by decide) (bw_in W31_12) rfl dX8_copy_111 ?_
                  refine lv_iload X.1 X.2.1 dX8_copy_114 (lv_at hl 6 rfl) ?_
                  refine lv_iload X.1 X.2.1 dX8_copy_116 (lv_at hl 7 rfl) ?_
                  obtain ⟨⟨⟨⟨ha25, ha26⟩, ha27⟩, ha28, ha29⟩, hf⟩ := asr_e hf
                  obtain ⟨z30, ez30, hf⟩ := stp_e hf
                  refine z_acopy (ws' := wbALL K g z30 y0) X hK hP hD hS (bw_in W41_4) (bw_in W41_5) (bw_in W41_6) (bw_in W41_7) hl.1 10 10 rfl rfl ha25 ha26 ha27 ha28 ha29 (Nat.le_of_ble_eq_true rfl) (Nat.le_of_ble_eq_true rfl) dX8_copy_118 (by rw [ez30]; rfl) (fun H locs hP hD hS => ?_)
                  refine lv_iconst (v := 1) X.1 X.2.1 dX8_copy_121 (by decide) ?_
                  obtain ⟨rfl, rfl⟩ := z_inj2 hf
                  exact z_iret X hr hlk hP hD hS dX8_copy_122
                · have hf := ite_t hf c24
                  refine lv_aload_n X.1 X.2.1 dX8_copy_97 rfl (lv_at hl 2 rfl) ?_
                  refine lv_iconst (v := 2) X.1 X.2.1 dX8_copy_98 (by decide) ?_
                  obtain ⟨r31, z32, hc33, hf⟩ := bd2_e hf
                  refine z_V (n := 1) (As := [.int 2]) (rest := []) (ci := 8) (q0 := 0) X hK hN (kX8_find l D K g z0 y0 _ 2 r31 z32 hc33) (bw_V W31_16 W31_17 W31_18 W1_2 W31_19) rfl ⟨rfl, rfl⟩ (by decide +kernel) rfl ⟨Nat.le_of_ble_eq_true rfl, Nat.le_of_ble_eq_true rfl⟩ hP hD rfl rfl (zj_same hD hS hA) hS hl.1 rfl (Nat.le_of_ble_eq_true rfl) dX8_copy_99 ⟨Nat.zero_le _, Nat.zero_le _⟩ rfl (fun H locs hP hD hS => ?_)
                  obtain ⟨rfl, rfl⟩ := z_inj2 hf
                  exact z_iret X hr hlk hP hD hS dX8_copy_102
            · have hf := ite_f hf c13
              refine lv_aload_n X.1 X.2.1 dX8_copy_68 rfl (lv_at hl 2 rfl) ?_
              refine lv_iconst (v := 4) X.1 X.2.1 dX8_copy_69 (by decide) ?_
              obtain ⟨r34, z35, hc36, hf⟩ := bd2_e hf
              refine z_V (n := 1) (As := [.int 4]) (rest := []) (ci := 8) (q0 := 0) X hK hN (kX8_find l D K g z0 y0 _ 4 r34 z35 hc36) (bw_V W31_16 W31_17 W31_18 W1_2 W31_19) rfl ⟨rfl, rfl⟩ (by decide +kernel) rfl ⟨Nat.le_of_ble_eq_true rfl, Nat.le_of_ble_eq_true rfl⟩ hP hD rfl rfl (zj_same hD hS hA) hS hl.1 rfl (Nat.le_of_ble_eq_true rfl) dX8_copy_70 ⟨Nat.zero_le _, Nat.zero_le _⟩ rfl (fun H locs hP hD hS => ?_)
              obtain ⟨rfl, rfl⟩ := z_inj2 hf
              exact z_iret X hr hlk hP hD hS dX8_copy_73
        have hf := ite_f hf c8
        by_cases c37 : x3 = 1
        · have hf := ite_t hf c37
          refine z_aald X hK hP 2 3 rfl rfl (by rw [c37]; exact vp_lit _ _ (by decide)) (by rw [c37] <;> rfl) dX8_copy_30 ?_
          refine lv_astore (lv' := [(7, .ref (g 5 0)), (6, .ref (g 4 0)), (0, .ref (g 0 0)), (1, .int x1), (2, .int x2), (3, .int x3), (4, .int x4), (5, .int x5)]) X.1 X.2.1 dX8_copy_31 hl (by decide) rfl (fun ls hl => ?_)
          refine lv_aload X.1 X.2.1 dX8_copy_33 (lv_at hl 1 rfl) ?_
          refine z_get X hK hP hiX5 9 rfl rfl 0 (by decide) (bw_in W31_10) rfl dX8_copy_35 ?_
          refine lv_if_ne (tgt := 49) X.1 X.2.1 dX8_copy_38 (by decide) (fun c38 => ?_) (fun c38 => ?_)
          · have hf := ite_f hf c38
            refine lv_aload_n X.1 X.2.1 dX8_copy_49 rfl (lv_at hl 2 rfl) ?_
            refine lv_iconst (v := 1) X.1 X.2.1 dX8_copy_50 (by decide) ?_
            obtain ⟨r39, z40, hc41, hf⟩ := bd2_e hf
            refine z_V (n := 1) (As := [.int 1]) (rest := []) (ci := 8) (q0 := 0) X hK hN (kX8_find l D K g z0 y0 _ 1 r39 z40 hc41) (bw_V W31_16 W31_17 W31_18 W1_2 W31_19) rfl ⟨rfl, rfl⟩ (by decide +kernel) rfl ⟨Nat.le_of_ble_eq_true rfl, Nat.le_of_ble_eq_true rfl⟩ hP hD rfl rfl (zj_same hD hS hA) hS hl.1 rfl (Nat.le_of_ble_eq_true rfl) dX8_copy_51 ⟨Nat.zero_le _, Nat.zero_le _⟩ rfl (fun H locs hP hD hS => ?_)
            obtain ⟨rfl, rfl⟩ := z_inj2 hf
            exact z_iret X hr hlk hP hD hS dX8_copy_54
          · have hf := ite_t hf c38
            refine lv_aload X.1 X.2.1 dX8_copy_41 (lv_at hl 0 rfl) ?_
            refine z_get X hK hP hiX5 11 rfl rfl 0 (by decide) (bw_in W31_10) rfl dX8_copy_43 ?_
            refine lv_if_eq (tgt := 55) X.1 X.2.1 dX8_copy_46 (by decide) (fun c42 => ?_) (fun c42 => ?_)
            · have hf := ite_t hf c42
              refine lv_aload X.1 X.2.1 dX8_copy_55 (lv_at hl 1 rfl) ?_
              refine z_get X hK hP hiX5 9 rfl rfl 1 (by decide) (bw_in W41_3) rfl dX8_copy_57 ?_
              refine lv_aload X.1 X.2.1 dX8_copy_60 (lv_at hl 0 rfl) ?_
              refine z_get X hK hP hiX5 11 rfl rfl 1 (by decide) (bw_in W41_3) rfl dX8_copy_62 ?_
              refine lv_icmp_eq (tgt := 74) X.1 X.2.1 dX8_copy_65 (by decide) (fun c43 => ?_) (fun c43 => ?_)
              · have hf := ite_t hf c43
                refine lv_aload X.1 X.2.1 dX8_copy_74 (lv_at hl 1 rfl) ?_
                refine lv_iload_n X.1 X.2.1 dX8_copy_76 rfl (lv_at hl 4 rfl) ?_
                refine lv_iload X.1 X.2.1 dX8_copy_77 (lv_at hl 7 rfl) ?_
                obtain ⟨r44, hc45, hf⟩ := bd1_e hf
                have hp46 : List.Perm (wbALL K g z0 y0) ((wbX5 K (g 4) (z0 4)) ++ ([0, 1, 2, 3, 5, 6, 7, 8, 9, 10, 11, 12, 13, 14].map (bfALL K g z0 y0)).flatten) := wbALL_perm [4, 0, 1, 2, 3, 5, 6, 7, 8, 9, 10, 11, 12, 13, 14] (by decide)
                refine z_V (n := 2) (As := [.int x2, .int x5]) (rest := []) (ci := 5) (q0 := 0) X hK hN (kX5_holds l D K (g 4) (z0 4) _ x2 x5 r44 hc45) (bw_V W41_8 W41_9 W41_10 W2_22 W41_11) rfl ⟨rfl, rfl⟩ (by decide +kernel) rfl ⟨Nat.le_of_ble_eq_true rfl, Nat.le_of_ble_eq_true rfl⟩ (hP.perm hp46).lef (hD.perm hp46).lef rfl rfl (zj_perm (ws' := wbALL K g z0 y0) hP hD hS hA hp46 (by refine List.Perm.symm ?_; exact wbALL_perm [4, 0, 1, 2, 3, 5, 6, 7, 8, 9, 10, 11, 12, 13, 14] (by decide))) hS hl.1 rfl (Nat.le_of_ble_eq_true rfl) dX8_copy_79 ⟨Nat.zero_le _, Nat.zero_le _⟩ rfl (fun H locs hP hD hS => ?_)
                refine lv_if_eq (tgt := 97) X.1 X.2.1 dX8_copy_82 (by decide) (fun c47 => ?_) (fun c47 => ?_)
                · have hf := ite_t hf c47
                  refine lv_aload_n X.1 X.2.1 dX8_copy_97 rfl (lv_at hl 2 rfl) ?_
                  refine lv_iconst (v := 2) X.1 X.2.1 dX8_copy_98 (by decide) ?_
                  obtain ⟨r48, z49, hc50, hf⟩ := bd2_e hf
                  refine z_V (n := 1) (As := [.int 2]) (rest := []) (ci := 8) (q0 := 0) X hK hN (kX8_find l D K g z0 y0 _ 2 r48 z49 hc50) (bw_V W31_16 W31_17 W31_18 W1_2 W31_19) rfl ⟨rfl, rfl⟩ (by decide +kernel) rfl ⟨Nat.le_of_ble_eq_true rfl, Nat.le_of_ble_eq_true rfl⟩ hP hD rfl rfl (zj_same hD hS hA) hS hl.1 rfl (Nat.le_of_ble_eq_true rfl) dX8_copy_99 ⟨Nat.zero_le _, Nat.zero_le _⟩ rfl (fun H locs hP hD hS => ?_)
                  obtain ⟨rfl, rfl⟩ := z_inj2 hf
                  exact z_iret X hr hlk hP hD hS dX8_copy_102
                · have hf := ite_f hf c47
                  refine lv_aload X.1 X.2.1 dX8_copy_85 (lv_at hl 0 rfl) ?_
                  refine lv_iload X.1 X.2.1 dX8_copy_87 (lv_at hl 6 rfl) ?_
                  refine lv_iload X.1 X.2.1 dX8_copy_89 (lv_at hl 7 rfl) ?_
                  obtain ⟨r51, hc52, hf⟩ := bd1_e hf
                  have hp53 : List.Perm (wbALL K g z0 y0) ((wbX5 K (g 5) (z0 5)) ++ ([0, 1, 2, 3, 4, 6, 7, 8, 9, 10, 11, 12, 13, 14].map (bfALL K g z0 y0)).flatten) := wbALL_perm [5, 0, 1, 2, 3, 4, 6, 7, 8, 9, 10, 11, 12, 13, 14] (by decide)
                  refine z_V (n := 2) (As := [.int x4, .int x5]) (rest := []) (ci := 5) (q0 := 0) X hK hN (kX5_holds l D K (g 5) (z0 5) _ x4 x5 r51 hc52) (bw_V W41_8 W41_9 W41_10 W2_22 W41_11) rfl ⟨rfl, rfl⟩ (by decide +kernel) rfl ⟨Nat.le_of_ble_eq_true rfl, Nat.le_of_ble_eq_true rfl⟩ (hP.perm hp53).lef (hD.perm hp53).lef rfl rfl (zj_perm (ws' := wbALL K g z0 y0) hP hD hS hA hp53 (by refine List.Perm.symm ?_; exact wbALL_perm [5, 0, 1, 2, 3, 4, 6, 7, 8, 9, 10, 11, 12, 13, 14] (by decide))) hS hl.1 rfl (Nat.le_of_ble_eq_true rfl) dX8_copy_91 ⟨Nat.zero_le _, Nat.zero_le _⟩ rfl (fun H locs hP hD hS => ?_)
                  refine lv_if_ne (tgt := 103) X.1 X.2.1 dX8_copy_94 (by decide) (fun c54 => ?_) (fun c54 => ?_)
                  · have hf := ite_f hf c54
                    refine lv_aload X.1 X.2.1 dX8_copy_103 (lv_at hl 1 rfl) ?_
                    refine z_get X hK hP hiX5 9 rfl rfl 3 (by decide) (bw_in W31_12) rfl dX8_copy_105 ?_
                    refine lv_iload_n X.1 X.2.1 dX8_copy_108 rfl (lv_at hl 4 rfl) ?_
                    refine lv_aload X.1 X.2.1 dX8_copy_109 (lv_at hl 0 rfl) ?_
                    refine z_get X hK hP hiX5 11 rfl rfl 3 (by decide) (bw_in W31_12) rfl dX8_copy_111 ?_
                    refine lv_iload X.1 X.2.1 dX8_copy_114 (lv_at hl 6 rfl) ?_
                    refine lv_iload X.1 X.2.1 dX8_copy_116 (lv_at hl 7 rfl) ?_
                    obtain ⟨⟨⟨⟨ha55, ha56⟩, ha57⟩, ha58, ha59⟩, hf⟩ := asr_e hf
                    obtain ⟨z60, ez60, hf⟩ := stp_e hf
                    refine z_acopy (ws' := wbALL K g z60 y0) X hK hP hD hS (bw_in W41_4) (bw_in W41_5) (bw_in W41_6) (bw_in W41_7) hl.1 10 12 rfl rfl ha55 ha56 ha57 ha58 ha59 (Nat.le_of_ble_eq_true rfl) (Nat.le_of_ble_eq_true rfl) dX8_copy_118 (by rw [ez60]; rfl) (fun H locs hP hD hS => ?_)
                    refine lv_iconst (v := 1) X.1 X.2.1 dX8_copy_121 (by decide) ?_
                    obtain ⟨rfl, rfl⟩ := z_inj2 hf
                    exact z_iret X hr hlk hP hD hS dX8_copy_122
                  · have hf := ite_t hf c54
                    refine lv_aload_n X.1 X.2.1 dX8_copy_97 rfl (lv_at hl 2 rfl) ?_
                    refine lv_iconst (v := 2) X.1 X.2.1 dX8_copy_98 (by decide) ?_
                    obtain ⟨r61, z62, hc63, hf⟩ := bd2_e hf
                    refine z_V (n := 1) (As := [.int 2]) (rest := []) (ci := 8) (q0 := 0) X hK hN (kX8_find l D K g z0 y0 _ 2 r61 z62 hc63) (bw_V W31_16 W31_17 W31_18 W1_2 W31_19) rfl ⟨rfl, rfl⟩ (by decide +kernel) rfl ⟨Nat.le_of_ble_eq_true rfl, Nat.le_of_ble_eq_true rfl⟩ hP hD rfl rfl (zj_same hD hS hA) hS hl.1 rfl (Nat.le_of_ble_eq_true rfl) dX8_copy_99 ⟨Nat.zero_le _, Nat.zero_le _⟩ rfl (fun H locs hP hD hS => ?_)
                    obtain ⟨rfl, rfl⟩ := z_inj2 hf
                    exact z_iret X hr hlk hP hD hS dX8_copy_102
              · have hf := ite_f hf c43
                refine lv_aload_n X.1 X.2.1 dX8_copy_68 rfl (lv_at hl 2 rfl) ?_
                refine lv_iconst (v := 4) X.1 X.2.1 dX8_copy_69 (by decide) ?_
                obtain ⟨r64, z65, hc66, hf⟩ := bd2_e hf
                refine z_V (n := 1) (As := [.int 4]) (rest := []) (ci := 8) (q0 := 0) X hK hN (kX8_find l D K g z0 y0 _ 4 r64 z65 hc66) (bw_V W31_16 W31_17 W31_18 W1_2 W31_19) rfl ⟨rfl, rfl⟩ (by decide +kernel) rfl ⟨Nat.le_of_ble_eq_true rfl, Nat.le_of_ble_eq_true rfl⟩ hP hD rfl rfl (zj_same hD hS hA) hS hl.1 rfl (Nat.le_of_ble_eq_true rfl) dX8_copy_70 ⟨Nat.zero_le _, Nat.zero_le _⟩ rfl (fun H locs hP hD hS => ?_)
                obtain ⟨rfl, rfl⟩ := z_inj2 hf
                exact z_iret X hr hlk hP hD hS dX8_copy_73
            · have hf := ite_f hf c42
              refine lv_aload_n X.1 X.2.1 dX8_copy_49 rfl (lv_at hl 2 rfl) ?_
              refine lv_iconst (v := 1) X.1 X.2.1 dX8_copy_50 (by decide) ?_
              obtain ⟨r67, z68, hc69, hf⟩ := bd2_e hf
              refine z_V (n := 1) (As := [.int 1]) (rest := []) (ci := 8) (q0 := 0) X hK hN (kX8_find l D K g z0 y0 _ 1 r67 z68 hc69) (bw_V W31_16 W31_17 W31_18 W1_2 W31_19) rfl ⟨rfl, rfl⟩ (by decide +kernel) rfl ⟨Nat.le_of_ble_eq_true rfl, Nat.le_of_ble_eq_true rfl⟩ hP hD rfl rfl (zj_same hD hS hA) hS hl.1 rfl (Nat.le_of_ble_eq_true rfl) dX8_copy_51 ⟨Nat.zero_le _, Nat.zero_le _⟩ rfl (fun H locs hP hD hS => ?_)
              obtain ⟨rfl, rfl⟩ := z_inj2 hf
              exact z_iret X hr hlk hP hD hS dX8_copy_54
        have hf := ite_f hf c37
        by_cases c70 : x3 = 2
        · have hf := ite_t hf c70
          refine z_aald X hK hP 2 3 rfl rfl (by rw [c70]; exact vp_lit _ _ (by decide)) (by rw [c70] <;> rfl) dX8_copy_30 ?_
          refine lv_astore (lv' := [(7, .ref (g 6 0)), (6, .ref (g 4 0)), (0, .ref (g 0 0)), (1, .int x1), (2, .int x2), (3, .int x3), (4, .int x4), (5, .int x5)]) X.1 X.2.1 dX8_copy_31 hl (by decide) rfl (fun ls hl => ?_)
          refine lv_aload X.1 X.2.1 dX8_copy_33 (lv_at hl 1 rfl) ?_
          refine z_get X hK hP hiX5 9 rfl rfl 0 (by decide) (bw_in W31_10) rfl dX8_copy_35 ?_
          refine lv_if_ne (tgt := 49) X.1 X.2.1 dX8_copy_38 (by decide) (fun c71 => ?_) (fun c71 => ?_)
          · have hf := ite_f hf c71
            refine lv_aload_n X.1 X.2.1 dX8_copy_49 rfl (lv_at hl 2 rfl) ?_
            refine lv_iconst (v := 1) X.1 X.2.1 dX8_copy_50 (by decide) ?_
            obtain ⟨r72, z73, hc74, hf⟩ := bd2_e hf
            refine z_V (n := 1) (As := [.int 1]) (rest := []) (ci := 8) (q0 := 0) X hK hN (kX8_find l D K g z0 y0 _ 1 r72 z73 hc74) (bw_V W31_16 W31_17 W31_18 W1_2 W31_19) rfl ⟨rfl, rfl⟩ (by decide +kernel) rfl ⟨Nat.le_of_ble_eq_true rfl, Nat.le_of_ble_eq_true rfl⟩ hP hD rfl rfl (zj_same hD hS hA) hS hl.1 rfl (Nat.le_of_ble_eq_true rfl) dX8_copy_51 ⟨Nat.zero_le _, Nat.zero_le _⟩ rfl (fun H locs hP hD hS => ?_)
            obtain ⟨rfl, rfl⟩ := z_inj2 hf
            exact z_iret X hr hlk hP hD hS dX8_copy_54
          · have hf := ite_t hf c71
            refine lv_aload X.1 X.2.1 dX8_copy_41 (lv_at hl 0 rfl) ?_
            refine z_get X hK hP hiX5 13 rfl rfl 0 (by decide) (bw_in W31_10) rfl dX8_copy_43 ?_
            refine lv_if_eq (tgt := 55) X.1 X.2.1 dX8_copy_46 (by decide) (fun c75 => ?_) (fun c75 => ?_)
            · have hf := ite_t hf c75
              refine lv_aload X.1 X.2.1 dX8_copy_55 (lv_at hl 1 rfl) ?_
              refine z_get X hK hP hiX5 9 rfl rfl 1 (by decide) (bw_in W41_3) rfl dX8_copy_57 ?_
              refine lv_aload X.1 X.2.1 dX8_copy_60 (lv_at hl 0 rfl) ?_
              refine z_get X hK hP hiX5 13 rfl rfl 1 (by decide) (bw_in W41_3) rfl dX8_copy_62 ?_
              refine lv_icmp_eq (tgt := 74) X.1 X.2.1 dX8_copy_65 (by decide) (fun c76 => ?_) (fun c76 => ?_)
              · have hf := ite_t hf c76
                refine lv_aload X.1 X.2.1 dX8_copy_74 (lv_at hl 1 rfl) ?_
                refine lv_iload_n X.1 X.2.1 dX8_copy_76 rfl (lv_at hl 4 rfl) ?_
                refine lv_iload X.1 X.2.1 dX8_copy_77 (lv_at hl 7 rfl) ?_
                obtain ⟨r77, hc78, hf⟩ := bd1_e hf
                have hp79 : List.Perm (wbALL K g z0 y0) ((wbX5 K (g 4) (z0 4)) ++ ([0, 1, 2, 3, 5, 6, 7, 8, 9, 10, 11, 12, 13, 14].map (bfALL K g z0 y0)).flatten) := wbALL_perm [4, 0, 1, 2, 3, 5, 6, 7, 8, 9, 10, 11, 12, 13, 14] (by decide)
                refine z_V (n := 2) (As := [.int x2, .int x5]) (rest := []) (ci := 5) (q0 := 0) X hK hN (kX5_holds l D K (g 4) (z0 4) _ x2 x5 r77 hc78) (bw_V W41_8 W41_9 W41_10 W2_22 W41_11) rfl ⟨rfl, rfl⟩ (by decide +kernel) rfl ⟨Nat.le_of_ble_eq_true rfl, Nat.le_of_ble_eq_true rfl⟩ (hP.perm hp79).lef (hD.perm hp79).lef rfl rfl (zj_perm (ws' := wbALL K g z0 y0) hP hD hS hA hp79 (by refine List.Perm.symm ?_; exact wbALL_perm [4, 0, 1, 2, 3, 5, 6, 7, 8, 9, 10, 11, 12, 13, 14] (by decide))) hS hl.1 rfl (Nat.le_of_ble_eq_true rfl) dX8_copy_79 ⟨Nat.zero_le _, Nat.zero_le _⟩ rfl (fun H locs hP hD hS => ?_)
                refine lv_if_eq (tgt := 97) X.1 X.2.1 dX8_copy_82 (by decide) (fun c80 => ?_) (fun c80 => ?_)
                · have hf := ite_t hf c80
                  refine lv_aload_n X.1 X.2.1 dX8_copy_97 rfl (lv_at hl 2 rfl) ?_
                  refine lv_iconst (v := 2) X.1 X.2.1 dX8_copy_98 (by decide) ?_
                  obtain ⟨r81, z82, hc83, hf⟩ := bd2_e hf
                  refine z_V (n := 1) (As := [.int 2]) (rest := []) (ci := 8) (q0 := 0) X hK hN (kX8_find l D K g z0 y0 _ 2 r81 z82 hc83) (bw_V W31_16 W31_17 W31_18 W1_2 W31_19) rfl ⟨rfl, rfl⟩ (by decide +kernel) rfl ⟨Nat.le_of_ble_eq_true rfl, Nat.le_of_ble_eq_true rfl⟩ hP hD rfl rfl (zj_same hD hS hA) hS hl.1 rfl (Nat.le_of_ble_eq_true rfl) dX8_copy_99 ⟨Nat.zero_le _, Nat.zero_le _⟩ rfl (fun H locs hP hD hS => ?_)
                  obtain ⟨rfl, rfl⟩ := z_inj2 hf
                  exact z_iret X hr hlk hP hD hS dX8_copy_102
                · have hf := ite_f hf c80
                  refine lv_aload X.1 X.2.1 dX8_copy_85 (lv_at hl 0 rfl) ?_
                  refine lv_iload X.1 X.2.1 dX8_copy_87 (lv_at hl 6 rfl) ?_
                  refine lv_iload X.1 X.2.1 dX8_copy_89 (lv_at hl 7 rfl) ?_
                  obtain ⟨r84, hc85, hf⟩ := bd1_e hf
                  have hp86 : List.Perm (wbALL K g z0 y0) ((wbX5 K (g 6) (z0 6)) ++ ([0, 1, 2, 3, 4, 5, 7, 8, 9, 10, 11, 12, 13, 14].map (bfALL K g z0 y0)).flatten) := wbALL_perm [6, 0, 1, 2, 3, 4, 5, 7, 8, 9, 10, 11, 12, 13, 14] (by decide)
                  refine z_V (n := 2) (As := [.int x4, .int x5]) (rest := []) (ci := 5) (q0 := 0) X hK hN (kX5_holds l D K (g 6) (z0 6) _ x4 x5 r84 hc85) (bw_V W41_8 W41_9 W41_10 W2_22 W41_11) rfl ⟨rfl, rfl⟩ (by decide +kernel) rfl ⟨Nat.le_of_ble_eq_true rfl, Nat.le_of_ble_eq_true rfl⟩ (hP.perm hp86).lef (hD.perm hp86).lef rfl rfl (zj_perm (ws' := wbALL K g z0 y0) hP hD hS hA hp86 (by refine List.Perm.symm ?_; exact wbALL_perm [6, 0, 1, 2, 3, 4, 5, 7, 8, 9, 10, 11, 12, 13, 14] (by decide))) hS hl.1 rfl (Nat.le_of_ble_eq_true rfl) dX8_copy_91 ⟨Nat.zero_le _, Nat.zero_le _⟩ rfl (fun H locs hP hD hS => ?_)
                  refine lv_if_ne (tgt := 103) X.1 X.2.1 dX8_copy_94 (by decide) (fun c87 => ?_) (fun c87 => ?_)
                  · have hf := ite_f hf c87
                    refine lv_aload X.1 X.2.1 dX8_copy_103 (lv_at hl 1 rfl) ?_
                    refine z_get X hK hP hiX5 9 rfl rfl 3 (by decide) (bw_in W31_12) rfl dX8_copy_105 ?_
                    refine lv_iload_n X.1 X.2.1 dX8_copy_108 rfl (lv_at hl 4 rfl) ?_
                    refine lv_aload X.1 X.2.1 dX8_copy_109 (lv_at hl 0 rfl) ?_
                    refine z_get X hK hP hiX5 13 rfl rfl 3 (by decide) (bw_in W31_12) rfl dX8_copy_111 ?_
                    refine lv_iload X.1 X.2.1 dX8_copy_114 (lv_at hl 6 rfl) ?_
                    refine lv_iload X.1 X.2.1 dX8_copy_116 (lv_at hl 7 rfl) ?_
                    obtain ⟨⟨⟨⟨ha88, ha89⟩, ha90⟩, ha91, ha92⟩, hf⟩ := asr_e hf
                    obtain ⟨z93, ez93, hf⟩ := stp_e hf
                    refine z_acopy (ws' := wbALL K g z93 y0) X hK hP hD hS (bw_in W41_4) (bw_in W41_5) (bw_in W41_6) (bw_in W41_7) hl.1 10 14 rfl rfl ha88 ha89 ha90 ha91 ha92 (Nat.le_of_ble_eq_true rfl) (Nat.le_of_ble_eq_true rfl) dX8_copy_118 (by rw [ez93]; rfl) (fun H locs hP hD hS => ?_)
                    refine lv_iconst (v := 1) X.1 X.2.1 dX8_copy_121 (by decide) ?_
                    obtain ⟨rfl, rfl⟩ := z_inj2 hf
                    exact z_iret X hr hlk hP hD hS dX8_copy_122
                  · have hf := ite_t hf c87
                    refine lv_aload_n X.1 X.2.1 dX8_copy_97 rfl (lv_at hl 2 rfl) ?_
                    refine lv_iconst (v := 2) X.1 X.2.1 dX8_copy_98 (by decide) ?_
                    obtain ⟨r94, z95, hc96, hf⟩ := bd2_e hf
                    refine z_V (n := 1) (As := [.int 2]) (rest := []) (ci := 8) (q0 := 0) X hK hN (kX8_find l D K g z0 y0 _ 2 r94 z95 hc96) (bw_V W31_16 W31_17 W31_18 W1_2 W31_19) rfl ⟨rfl, rfl⟩ (by decide +kernel) rfl ⟨Nat.le_of_ble_eq_true rfl, Nat.le_of_ble_eq_true rfl⟩ hP hD rfl rfl (zj_same hD hS hA) hS hl.1 rfl (Nat.le_of_ble_eq_true rfl) dX8_copy_99 ⟨Nat.zero_le _, Nat.zero_le _⟩ rfl (fun H locs hP hD hS => ?_)
                    obtain ⟨rfl, rfl⟩ := z_inj2 hf
                    exact z_iret X hr hlk hP hD hS dX8_copy_102
              · have hf := ite_f hf c76
                refine lv_aload_n X.1 X.2.1 dX8_copy_68 rfl (lv_at hl 2 rfl) ?_
                refine lv_iconst (v := 4) X.1 X.2.1 dX8_copy_69 (by decide) ?_
                obtain ⟨r97, z98, hc99, hf⟩ := bd2_e hf
                refine z_V (n := 1) (As := [.int 4]) (rest := []) (ci := 8) (q0 := 0) X hK hN (kX8_find l D K g z0 y0 _ 4 r97 z98 hc99) (bw_V W31_16 W31_17 W31_18 W1_2 W31_19) rfl ⟨rfl, rfl⟩ (by decide +kernel) rfl ⟨Nat.le_of_ble_eq_true rfl, Nat.le_of_ble_eq_true rfl⟩ hP hD rfl rfl (zj_same hD hS hA) hS hl.1 rfl (Nat.le_of_ble_eq_true rfl) dX8_copy_70 ⟨Nat.zero_le _, Nat.zero_le _⟩ rfl (fun H locs hP hD hS => ?_)
                obtain ⟨rfl, rfl⟩ := z_inj2 hf
                exact z_iret X hr hlk hP hD hS dX8_copy_73
            · have hf := ite_f hf c75
              refine lv_aload_n X.1 X.2.1 dX8_copy_49 rfl (lv_at hl 2 rfl) ?_
              refine lv_iconst (v := 1) X.1 X.2.1 dX8_copy_50 (by decide) ?_
              obtain ⟨r100, z101, hc102, hf⟩ := bd2_e hf
              refine z_V (n := 1) (As := [.int 1]) (rest := []) (ci := 8) (q0 := 0) X hK hN (kX8_find l D K g z0 y0 _ 1 r100 z101 hc102) (bw_V W31_16 W31_17 W31_18 W1_2 W31_19) rfl ⟨rfl, rfl⟩ (by decide +kernel) rfl ⟨Nat.le_of_ble_eq_true rfl, Nat.le_of_ble_eq_true rfl⟩ hP hD rfl rfl (zj_same hD hS hA) hS hl.1 rfl (Nat.le_of_ble_eq_true rfl) dX8_copy_51 ⟨Nat.zero_le _, Nat.zero_le _⟩ rfl (fun H locs hP hD hS => ?_)
              obtain ⟨rfl, rfl⟩ := z_inj2 hf
              exact z_iret X hr hlk hP hD hS dX8_copy_54
        have hf := ite_f hf c70
        by_cases c103 : x3 = 3
        · have hf := ite_t hf c103
          refine z_aald X hK hP 2 3 rfl rfl (by rw [c103]; exact vp_lit _ _ (by decide)) (by rw [c103] <;> rfl) dX8_copy_30 ?_
          refine lv_astore (lv' := [(7, .ref (g 7 0)), (6, .ref (g 4 0)), (0, .ref (g 0 0)), (1, .int x1), (2, .int x2), (3, .int x3), (4, .int x4), (5, .int x5)]) X.1 X.2.1 dX8_copy_31 hl (by decide) rfl (fun ls hl => ?_)
          refine lv_aload X.1 X.2.1 dX8_copy_33 (lv_at hl 1 rfl) ?_
          refine z_get X hK hP hiX5 9 rfl rfl 0 (by decide) (bw_in W31_10) rfl dX8_copy_35 ?_
          refine lv_if_ne (tgt := 49) X.1 X.2.1 dX8_copy_38 (by decide) (fun c104 => ?_) (fun c104 => ?_)
          · have hf := ite_f hf c104
            refine lv_aload_n X.1 X.2.1 dX8_copy_49 rfl (lv_at hl 2 rfl) ?_
            refine lv_iconst (v := 1) X.1 X.2.1 dX8_copy_50 (by decide) ?_
            obtain ⟨r105, z106, hc107, hf⟩ := bd2_e hf
            refine z_V (n := 1) (As := [.int 1]) (rest := []) (ci := 8) (q0 := 0) X hK hN (kX8_find l D K g z0 y0 _ 1 r105 z106 hc107) (bw_V W31_16 W31_17 W31_18 W1_2 W31_19) rfl ⟨rfl, rfl⟩ (by decide +kernel) rfl ⟨Nat.le_of_ble_eq_true rfl, Nat.le_of_ble_eq_true rfl⟩ hP hD rfl rfl (zj_same hD hS hA) hS hl.1 rfl (Nat.le_of_ble_eq_true rfl) dX8_copy_51 ⟨Nat.zero_le _, Nat.zero_le _⟩ rfl (fun H locs hP hD hS => ?_)
            obtain ⟨rfl, rfl⟩ := z_inj2 hf
            exact z_iret X hr hlk hP hD hS dX8_copy_54
          · have hf := ite_t hf c104
            refine lv_aload X.1 X.2.1 dX8_copy_41 (lv_at hl 0 rfl) ?_
            refine z_get X hK hP hiX5 15 rfl rfl 0 (by decide) (bw_in W31_10) rfl dX8_copy_43 ?_
            refine lv_if_eq (tgt := 55) X.1 X.2.1 dX8_copy_46 (by decide) (fun c108 => ?_) (fun c108 => ?_)
            · have hf := ite_t hf c108
              refine lv_aload X.1 X.2.1 dX8_copy_55 (lv_at hl 1 rfl) ?_
              refine z_get X hK hP hiX5 9 rfl rfl 1 (by decide) (bw_in W41_3) rfl dX8_copy_57 ?_
              refine lv_aload X.1 X.2.1 dX8_copy_60 (lv_at hl 0 rfl) ?_
              refine z_get X hK hP hiX5 15 rfl rfl 1 (by decide) (bw_in W41_3) rfl dX8_copy_62 ?_
              refine lv_icmp_eq (tgt := 74) X.1 X.2.1 dX8_copy_65 (by decide) (fun c109 => ?_) (fun c109 => ?_)
              · have hf := ite_t hf c109
                refine lv_aload X.1 X.2.1 dX8_copy_74 (lv_at hl 1 rfl) ?_
                refine lv_iload_n X.1 X.2.1 dX8_copy_76 rfl (lv_at hl 4 rfl) ?_
                refine lv_iload X.1 X.2.1 dX8_copy_77 (lv_at hl 7 rfl) ?_
                obtain ⟨r110, hc111, hf⟩ := bd1_e hf
                have hp112 : List.Perm (wbALL K g z0 y0) ((wbX5 K (g 4) (z0 4)) ++ ([0, 1, 2, 3, 5, 6, 7, 8, 9, 10, 11, 12, 13, 14].map (bfALL K g z0 y0)).flatten) := wbALL_perm [4, 0, 1, 2, 3, 5, 6, 7, 8, 9, 10, 11, 12, 13, 14] (by decide)
                refine z_V (n := 2) (As := [.int x2, .int x5]) (rest := []) (ci := 5) (q0 := 0) X hK hN (kX5_holds l D K (g 4) (z0 4) _ x2 x5 r110 hc111) (bw_V W41_8 W41_9 W41_10 W2_22 W41_11) rfl ⟨rfl, rfl⟩ (by decide +kernel) rfl ⟨Nat.le_of_ble_eq_true rfl, Nat.le_of_ble_eq_true rfl⟩ (hP.perm hp112).lef (hD.perm hp112).lef rfl rfl (zj_perm (ws' := wbALL K g z0 y0) hP hD hS hA hp112 (by refine List.Perm.symm ?_; exact wbALL_perm [4, 0, 1, 2, 3, 5, 6, 7, 8, 9, 10, 11, 12, 13, 14] (by decide))) hS hl.1 rfl (Nat.le_of_ble_eq_true rfl) dX8_copy_79 ⟨Nat.zero_le _, Nat.zero_le _⟩ rfl (fun H locs hP hD hS => ?_)
                refine lv_if_eq (tgt := 97) X.1 X.2.1 dX8_copy_82 (by decide) (fun c113 => ?_) (fun c113 => ?_)
                · have hf := ite_t hf c113
                  refine lv_aload_n X.1 X.2.1 dX8_copy_97 rfl (lv_at hl 2 rfl) ?_
                  refine lv_iconst (v := 2) X.1 X.2.1 dX8_copy_98 (by decide) ?_
                  obtain ⟨r114, z115, hc116, hf⟩ := bd2_e hf
                  refine z_V (n := 1) (As := [.int 2]) (rest := []) (ci := 8) (q0 := 0) X hK hN (kX8_find l D K g z0 y0 _ 2 r114 z115 hc116) (bw_V W31_16 W31_17 W31_18 W1_2 W31_19) rfl ⟨rfl, rfl⟩ (by decide +kernel) rfl ⟨Nat.le_of_ble_eq_true rfl, Nat.le_of_ble_eq_true rfl⟩ hP hD rfl rfl (zj_same hD hS hA) hS hl.1 rfl (Nat.le_of_ble_eq_true rfl) dX8_copy_99 ⟨Nat.zero_le _, Nat.zero_le _⟩ rfl (fun H locs hP hD hS => ?_)
                  obtain ⟨rfl, rfl⟩ := z_inj2 hf
                  exact z_iret X hr hlk hP hD hS dX8_copy_102
                · have hf := ite_f hf c113
                  refine lv_aload X.1 X.2.1 dX8_copy_85 (lv_at hl 0 rfl) ?_
                  refine lv_iload X.1 X.2.1 dX8_copy_87 (lv_at hl 6 rfl) ?_
                  refine lv_iload X.1 X.2.1 dX8_copy_89 (lv_at hl 7 rfl) ?_
                  obtain ⟨r117, hc118, hf⟩ := bd1_e hf
                  have hp119 : List.Perm (wbALL K g z0 y0) ((wbX5 K (g 7) (z0 7)) ++ ([0, 1, 2, 3, 4, 5, 6, 8, 9, 10, 11, 12, 13, 14].map (bfALL K g z0 y0)).flatten) := wbALL_perm [7, 0, 1, 2, 3, 4, 5, 6, 8, 9, 10, 11, 12, 13, 14] (by decide)
                  refine z_V (n := 2) (As := [.int x4, .int x5]) (rest := []) (ci := 5) (q0 := 0) X hK hN (kX5_holds l D K (g 7) (z0 7) _ x4 x5 r117 hc118) (bw_V W41_8 W41_9 W41_10 W2_22 W41_11) rfl ⟨rfl, rfl⟩ (by decide +kernel) rfl ⟨Nat.le_of_ble_eq_true rfl, Nat.le_of_ble_eq_true rfl⟩ (hP.perm hp119).lef (hD.perm hp119).lef rfl rfl (zj_perm (ws' := wbALL K g z0 y0) hP hD hS hA hp119 (by refine List.Perm.symm ?_; exact wbALL_perm [7, 0, 1, 2, 3, 4, 5, 6, 8, 9, 10, 11, 12, 13, 14] (by decide))) hS hl.1 rfl (Nat.le_of_ble_eq_true rfl) dX8_copy_91 ⟨Nat.zero_le _, Nat.zero_le _⟩ rfl (fun H locs hP hD hS => ?_)
                  refine lv_if_ne (tgt := 103) X.1 X.2.1 dX8_copy_94 (by decide) (fun c120 => ?_) (fun c120 => ?_)
                  · have hf := ite_f hf c120
                    refine lv_aload X.1 X.2.1 dX8_copy_103 (lv_at hl 1 rfl) ?_
                    refine z_get X hK hP hiX5 9 rfl rfl 3 (by decide) (bw_in W31_12) rfl dX8_copy_105 ?_
                    refine lv_iload_n X.1 X.2.1 dX8_copy_108 rfl (lv_at hl 4 rfl) ?_
                    refine lv_aload X.1 X.2.1 dX8_copy_109 (lv_at hl 0 rfl) ?_
                    refine z_get X hK hP hiX5 15 rfl rfl 3 (by decide) (bw_in W31_12) rfl dX8_copy_111 ?_
                    refine lv_iload X.1 X.2.1 dX8_copy_114 (lv_at hl 6 rfl) ?_
                    refine lv_iload X.1 X.2.1 dX8_copy_116 (lv_at hl 7 rfl) ?_
                    obtain ⟨⟨⟨⟨ha121, ha122⟩, ha123⟩, ha124, ha125⟩, hf⟩ := asr_e hf
                    obtain ⟨z126, ez126, hf⟩ := stp_e hf
                    refine z_acopy (ws' := wbALL K g z126 y0) X hK hP hD hS (bw_in W41_4) (bw_in W41_5) (bw_in W41_6) (bw_in W41_7) hl.1 10 16 rfl rfl ha121 ha122 ha123 ha124 ha125 (Nat.le_of_ble_eq_true rfl) (Nat.le_of_ble_eq_true rfl) dX8_copy_118 (by rw [ez126]; rfl) (fun H locs hP hD hS => ?_)
                    refine lv_iconst (v := 1) X.1 X.2.1 dX8_copy_121 (by decide) ?_
                    obtain ⟨rfl, rfl⟩ := z_inj2 hf
                    exact z_iret X hr hlk hP hD hS dX8_copy_122
                  · have hf := ite_t hf c120
                    refine lv_aload_n X.1 X.2.1 dX8_copy_97 rfl (lv_at hl 2 rfl) ?_
                    refine lv_iconst (v := 2) X.1 X.2.1 dX8_copy_98 (by decide) ?_
                    obtain ⟨r127, z128, hc129, hf⟩ := bd2_e hf
                    refine z_V (n := 1) (As := [.int 2]) (rest := []) (ci := 8) (q0 := 0) X hK hN (kX8_find l D K g z0 y0 _ 2 r127 z128 hc129) (bw_V W31_16 W31_17 W31_18 W1_2 W31_19) rfl ⟨rfl, rfl⟩ (by decide +kernel) rfl ⟨Nat.le_of_ble_eq_true rfl, Nat.le_of_ble_eq_true rfl⟩ hP hD rfl rfl (zj_same hD hS hA) hS hl.1 rfl (Nat.le_of_ble_eq_true rfl) dX8_copy_99 ⟨Nat.zero_le _, Nat.zero_le _⟩ rfl (fun H locs hP hD hS => ?_)
                    obtain ⟨rfl, rfl⟩ := z_inj2 hf
                    exact z_iret X hr hlk hP hD hS dX8_copy_102
              · have hf := ite_f hf c109
                refine lv_aload_n X.1 X.2.1 dX8_copy_68 rfl (lv_at hl 2 rfl) ?_
                refine lv_iconst (v := 4) X.1 X.2.1 dX8_copy_69 (by decide) ?_
                obtain ⟨r130, z131, hc132, hf⟩ := bd2_e hf
                refine z_V (n := 1) (As := [.int 4]) (rest := []) (ci := 8) (q0 := 0) X hK hN (kX8_find l D K g z0 y0 _ 4 r130 z131 hc132) (bw_V W31_16 W31_17 W31_18 W1_2 W31_19) rfl ⟨rfl, rfl⟩ (by decide +kernel) rfl ⟨Nat.le_of_ble_eq_true rfl, Nat.le_of_ble_eq_true rfl⟩ hP hD rfl rfl (zj_same hD hS hA) hS hl.1 rfl (Nat.le_of_ble_eq_true rfl) dX8_copy_70 ⟨Nat.zero_le _, Nat.zero_le _⟩ rfl (fun H locs hP hD hS => ?_)
                obtain ⟨rfl, rfl⟩ := z_inj2 hf
                exact z_iret X hr hlk hP hD hS dX8_copy_73
            · have hf := ite_f hf c108
              refine lv_aload_n X.1 X.2.1 dX8_copy_49 rfl (lv_at hl 2 rfl) ?_
              refine lv_iconst (v := 1) X.1 X.2.1 dX8_copy_50 (by decide) ?_
              obtain ⟨r133, z134, hc135, hf⟩ := bd2_e hf
              refine z_V (n := 1) (As := [.int 1]) (rest := []) (ci := 8) (q0 := 0) X hK hN (kX8_find l D K g z0 y0 _ 1 r133 z134 hc135) (bw_V W31_16 W31_17 W31_18 W1_2 W31_19) rfl ⟨rfl, rfl⟩ (by decide +kernel) rfl ⟨Nat.le_of_ble_eq_true rfl, Nat.le_of_ble_eq_true rfl⟩ hP hD rfl rfl (zj_same hD hS hA) hS hl.1 rfl (Nat.le_of_ble_eq_true rfl) dX8_copy_51 ⟨Nat.zero_le _, Nat.zero_le _⟩ rfl (fun H locs hP hD hS => ?_)
              obtain ⟨rfl, rfl⟩ := z_inj2 hf
              exact z_iret X hr hlk hP hD hS dX8_copy_54
        have hf := ite_f hf c103
        cases hf
      have hf := ite_f hf c7
      by_cases c136 : x1 = 1
      · have hf := ite_t hf c136
        refine z_aald X hK hP 2 3 rfl rfl (by rw [c136]; exact vp_lit _ _ (by decide)) (by rw [c136] <;> rfl) dX8_copy_22 ?_
        refine lv_astore (lv' := [(6, .ref (g 5 0)), (0, .ref (g 0 0)), (1, .int x1), (2, .int x2), (3, .int x3), (4, .int x4), (5, .int x5)]) X.1 X.2.1 dX8_copy_23 hl (by decide) rfl (fun ls hl => ?_)
        refine lv_aload_n X.1 X.2.1 dX8_copy_25 rfl (lv_at hl 1 rfl) ?_
        refine z_get X hK hP hiX8 0 rfl rfl 1 (by decide) (bw_in W1_15) rfl dX8_copy_26 ?_
        refine lv_iload_n X.1 X.2.1 dX8_copy_29 rfl (lv_at hl 4 rfl) ?_
        by_cases c137 : x3 = 0
        · have hf := ite_t hf c137
          refine z_aald X hK hP 2 3 rfl rfl (by rw [c137]; exact vp_lit _ _ (by decide)) (by rw [c137] <;> rfl) dX8_copy_30 ?_
          refine lv_astore (lv' := [(7, .ref (g 4 0)), (6, .ref (g 5 0)), (0, .ref (g 0 0)), (1, .int x1), (2, .int x2), (3, .int x3), (4, .int x4), (5, .int x5)]) X.1 X.2.1 dX8_copy_31 hl (by decide) rfl (fun ls hl => ?_)
          refine lv_aload X.1 X.2.1 dX8_copy_33 (lv_at hl 1 rfl) ?_
          refine z_get X hK hP hiX5 11 rfl rfl 0 (by decide) (bw_in W31_10) rfl dX8_copy_35 ?_
          refine lv_if_ne (tgt := 49) X.1 X.2.1 dX8_copy_38 (by decide) (fun c138 => ?_) (fun c138 => ?_)
          · have hf := ite_f hf c138
            refine lv_aload_n X.1 X.2.1 dX8_copy_49 rfl (lv_at hl 2 rfl) ?_
            refine lv_iconst (v := 1) X.1 X.2.1 dX8_copy_50 (by decide) ?_
            obtain ⟨r139, z140, hc141, hf⟩ := bd2_e hf
            refine z_V (n := 1) (As := [.int 1]) (rest := []) (ci := 8) (q0 := 0) X hK hN (kX8_find l D K g z0 y0 _ 1 r139 z140 hc141) (bw_V W31_16 W31_17 W31_18 W1_2 W31_19) rfl ⟨rfl, rfl⟩ (by decide +kernel) rfl ⟨Nat.le_of_ble_eq_true rfl, Nat.le_of_ble_eq_true rfl⟩ hP hD rfl rfl (zj_same hD hS hA) hS hl.1 rfl (Nat.le_of_ble_eq_true rfl) dX8_copy_51 ⟨Nat.zero_le _, Nat.zero_le _⟩ rfl (fun H locs hP hD hS => ?_)
            obtain ⟨rfl, rfl⟩ := z_inj2 hf
            exact z_iret X hr hlk hP hD hS dX8_copy_54
          · have hf := ite_t hf c138
            refine lv_aload X.1 X.2.1 dX8_copy_41 (lv_at hl 0 rfl) ?_
            refine z_get X hK hP hiX5 9 rfl rfl 0 (by decide) (bw_in W31_10) rfl dX8_copy_43 ?_
            refine lv_if_eq (tgt := 55) X.1 X.2.1 dX8_copy_46 (by decide) (fun c142 => ?_) (fun c142 => ?_)
            · have hf := ite_t hf c142
              refine lv_aload X.1 X.2.1 dX8_copy_55 (lv_at hl 1 rfl) ?_
              refine z_get X hK hP hiX5 11 rfl rfl 1 (by decide) (bw_in W41_3) rfl dX8_copy_57 ?_
              refine lv_aload X.1 X.2.1 dX8_copy_60 (lv_at hl 0 rfl) ?_
              refine z_get X hK hP hiX5 9 rfl rfl 1 (by decide) (bw_in W41_3) rfl dX8_copy_62 ?_
              refine lv_icmp_eq (tgt := 74) X.1 X.2.1 dX8_copy_65 (by decide) (fun c143 => ?_) (fun c143 => ?_)
              · have hf := ite_t hf c143
                refine lv_aload X.1 X.2.1 dX8_copy_74 (lv_at hl 1 rfl) ?_
                refine lv_iload_n X.1 X.2.1 dX8_copy_76 rfl (lv_at hl 4 rfl) ?_
                refine lv_iload X.1 X.2.1 dX8_copy_77 (lv_at hl 7 rfl) ?_
                obtain ⟨r144, hc145, hf⟩ := bd1_e hf
                have hp146 : List.Perm (wbALL K g z0 y0) ((wbX5 K (g 5) (z0 5)) ++ ([0, 1, 2, 3, 4, 6, 7, 8, 9, 10, 11, 12, 13, 14].map (bfALL K g z0 y0)).flatten) := wbALL_perm [5, 0, 1, 2, 3, 4, 6, 7, 8, 9, 10, 11, 12, 13, 14] (by decide)
                refine z_V (n := 2) (As := [.int x2, .int x5]) (rest := []) (ci := 5) (q0 := 0) X hK hN (kX5_holds l D K (g 5) (z0 5) _ x2 x5 r144 hc145) (bw_V W41_8 W41_9 W41_10 W2_22 W41_11) rfl ⟨rfl, rfl⟩ (by decide +kernel) rfl ⟨Nat.le_of_ble_eq_true rfl, Nat.le_of_ble_eq_true rfl⟩ (hP.perm hp146).lef (hD.perm hp146).lef rfl rfl (zj_perm (ws' := wbALL K g z0 y0) hP hD hS hA hp146 (by refine List.Perm.symm ?_; exact wbALL_perm [5, 0, 1, 2, 3, 4, 6, 7, 8, 9, 10, 11, 12, 13, 14] (by decide))) hS hl.1 rfl (Nat.le_of_ble_eq_true rfl) dX8_copy_79 ⟨Nat.zero_le _, Nat.zero_le _⟩ rfl (fun H locs hP hD hS => ?_)
                refine lv_if_eq (tgt := 97) X.1 X.2.1 dX8_copy_82 (by decide) (fun c147 => ?_) (fun c147 => ?_)
                · have hf := ite_t hf c147
                  refine lv_aload_n X.1 X.2.1 dX8_copy_97 rfl (lv_at hl 2 rfl) ?_
                  refine lv_iconst (v := 2) X.1 X.2.1 dX8_copy_98 (by decide) ?_
                  obtain ⟨r148, z149, hc150, hf⟩ := bd2_e hf
                  refine z_V (n := 1) (As := [.int 2]) (rest := []) (ci := 8) (q0 := 0) X hK hN (kX8_find l D K g z0 y0 _ 2 r148 z149 hc150) (bw_V W31_16 W31_17 W31_18 W1_2 W31_19) rfl ⟨rfl, rfl⟩ (by decide +kernel) rfl ⟨Nat.le_of_ble_eq_true rfl, Nat.le_of_ble_eq_true rfl⟩ hP hD rfl rfl (zj_same hD hS hA) hS hl.1 rfl (Nat.le_of_ble_eq_true rfl) dX8_copy_99 ⟨Nat.zero_le _, Nat.zero_le _⟩ rfl (fun H locs hP hD hS => ?_)
                  obtain ⟨rfl, rfl⟩ := z_inj2 hf
                  exact z_iret X hr hlk hP hD hS dX8_copy_102
                · have hf := ite_f hf c147
                  refine lv_aload X.1 X.2.1 dX8_copy_85 (lv_at hl 0 rfl) ?_
                  refine lv_iload X.1 X.2.1 dX8_copy_87 (lv_at hl 6 rfl) ?_
                  refine lv_iload X.1 X.2.1 dX8_copy_89 (lv_at hl 7 rfl) ?_
                  obtain ⟨r151, hc152, hf⟩ := bd1_e hf
                  have hp153 : List.Perm (wbALL K g z0 y0) ((wbX5 K (g 4) (z0 4)) ++ ([0, 1, 2, 3, 5, 6, 7, 8, 9, 10, 11, 12, 13, 14].map (bfALL K g z0 y0)).flatten) := wbALL_perm [4, 0, 1, 2, 3, 5, 6, 7, 8, 9, 10, 11, 12, 13, 14] (by decide)
                  refine z_V (n := 2) (As := [.int x4, .int x5]) (rest := []) (ci := 5) (q0 := 0) X hK hN (kX5_holds l D K (g 4) (z0 4) _ x4 x5 r151 hc152) (bw_V W41_8 W41_9 W41_10 W2_22 W41_11) rfl ⟨rfl, rfl⟩ (by decide +kernel) rfl ⟨Nat.le_of_ble_eq_true rfl, Nat.le_of_ble_eq_true rfl⟩ (hP.perm hp153).lef (hD.perm hp153).lef rfl rfl (zj_perm (ws' := wbALL K g z0 y0) hP hD hS hA hp153 (by refine List.Perm.symm ?_; exact wbALL_perm [4, 0, 1, 2, 3, 5, 6, 7, 8, 9, 10, 11, 12, 13, 14] (by decide))) hS hl.1 rfl (Nat.le_of_ble_eq_true rfl) dX8_copy_91 ⟨Nat.zero_le _, Nat.zero_le _⟩ rfl (fun H locs hP hD hS => ?_)
                  refine lv_if_ne (tgt := 103) X.1 X.2.1 dX8_copy_94 (by decide) (fun c154 => ?_) (fun c154 => ?_)
                  · have hf := ite_f hf c154
                    refine lv_aload X.1 X.2.1 dX8_copy_103 (lv_at hl 1 rfl) ?_
                    refine z_get X hK hP hiX5 11 rfl rfl 3 (by decide) (bw_in W31_12) rfl dX8_copy_105 ?_
                    refine lv_iload_n X.1 X.2.1 dX8_copy_108 rfl (lv_at hl 4 rfl) ?_
                    refine lv_aload X.1 X.2.1 dX8_copy_109 (lv_at hl 0 rfl) ?_
                    refine z_get X hK hP hiX5 9 rfl rfl 3 (by decide) (bw_in W31_12) rfl dX8_copy_111 ?_
                    refine lv_iload X.1 X.2.1 dX8_copy_114 (lv_at hl 6 rfl) ?_
                    refine lv_iload X.1 X.2.1 dX8_copy_116 (lv_at hl 7 rfl) ?_
                    obtain ⟨⟨⟨⟨ha155, ha156⟩, ha157⟩, ha158, ha159⟩, hf⟩ := asr_e hf
                    obtain ⟨z160, ez160, hf⟩ := stp_e hf
                    refine z_acopy (ws' := wbALL K g z160 y0) X hK hP hD hS (bw_in W41_4) (bw_in W41_5) (bw_in W41_6) (bw_in W41_7) hl.1 12 10 rfl rfl ha155 ha156 ha157 ha158 ha159 (Nat.le_of_ble_eq_true rfl) (Nat.le_of_ble_eq_true rfl) dX8_copy_118 (by rw [ez160]; rfl) (fun H locs hP hD hS => ?_)
                    refine lv_iconst (v := 1) X.1 X.2.1 dX8_copy_121 (by decide) ?_
                    obtain ⟨rfl, rfl⟩ := z_inj2 hf
                    exact z_iret X hr hlk hP hD hS dX8_copy_122
                  · have hf := ite_t hf c154
                    refine lv_aload_n X.1 X.2.1 dX8_copy_97 rfl (lv_at hl 2 rfl) ?_
                    refine lv_iconst (v := 2) X.1 X.2.1 dX8_copy_98 (by decide) ?_
                    obtain ⟨r161, z162, hc163, hf⟩ := bd2_e hf
                    refine z_V (n := 1) (As := [.int 2]) (rest := []) (ci := 8) (q0 := 0) X hK hN (kX8_find l D K g z0 y0 _ 2 r161 z162 hc163) (bw_V W31_16 W31_17 W31_18 W1_2 W31_19) rfl ⟨rfl, rfl⟩ (by decide +kernel) rfl ⟨Nat.le_of_ble_eq_true rfl, Nat.le_of_ble_eq_true rfl⟩ hP hD rfl rfl (zj_same hD hS hA) hS hl.1 rfl (Nat.le_of_ble_eq_true rfl) dX8_copy_99 ⟨Nat.zero_le _, Nat.zero_le _⟩ rfl (fun H locs hP hD hS => ?_)
                    obtain ⟨rfl, rfl⟩ := z_inj2 hf
                    exact z_iret X hr hlk hP hD hS dX8_copy_102
              · have hf := ite_f hf c143
                refine lv_aload_n X.1 X.2.1 dX8_copy_68 rfl (lv_at hl 2 rfl) ?_
                refine lv_iconst (v := 4) X.1 X.2.1 dX8_copy_69 (by decide) ?_
                obtain ⟨r164, z165, hc166, hf⟩ := bd2_e hf
                refine z_V (n := 1) (As := [.int 4]) (rest := []) (ci := 8) (q0 := 0) X hK hN (kX8_find l D K g z0 y0 _ 4 r164 z165 hc166) (bw_V W31_16 W31_17 W31_18 W1_2 W31_19) rfl ⟨rfl, rfl⟩ (by decide +kernel) rfl ⟨Nat.le_of_ble_eq_true rfl, Nat.le_of_ble_eq_true rfl⟩ hP hD rfl rfl (zj_same hD hS hA) hS hl.1 rfl (Nat.le_of_ble_eq_true rfl) dX8_copy_70 ⟨Nat.zero_le _, Nat.zero_le _⟩ rfl (fun H locs hP hD hS => ?_)
                obtain ⟨rfl, rfl⟩ := z_inj2 hf
                exact z_iret X hr hlk hP hD hS dX8_copy_73
            · have hf := ite_f hf c142
              refine lv_aload_n X.1 X.2.1 dX8_copy_49 rfl (lv_at hl 2 rfl) ?_
              refine lv_iconst (v := 1) X.1 X.2.1 dX8_copy_50 (by decide) ?_
              obtain ⟨r167, z168, hc169, hf⟩ := bd2_e hf
              refine z_V (n := 1) (As := [.int 1]) (rest := []) (ci := 8) (q0 := 0) X hK hN (kX8_find l D K g z0 y0 _ 1 r167 z168 hc169) (bw_V W31_16 W31_17 W31_18 W1_2 W31_19) rfl ⟨rfl, rfl⟩ (by decide +kernel) rfl ⟨Nat.le_of_ble_eq_true rfl, Nat.le_of_ble_eq_true rfl⟩ hP hD rfl rfl (zj_same hD hS hA) hS hl.1 rfl (Nat.le_of_ble_eq_true rfl) dX8_copy_51 ⟨Nat.zero_le _, Nat.zero_le _⟩ rfl (fun H locs hP hD hS => ?_)
              obtain ⟨rfl, rfl⟩ := z_inj2 hf
              exact z_iret X hr hlk hP hD hS dX8_copy_54
        have hf := ite_f hf c137
        by_cases c170 : x3 = 1
        · have hf := ite_t hf c170
          refine z_aald X hK hP 2 3 rfl rfl (by rw [c170]; exact vp_lit _ _ (by decide)) (by rw [c170] <;> rfl) dX8_copy_30 ?_
          refine lv_astore (lv' := [(7, .ref (g 5 0)), (6, .ref (g 5 0)), (0, .ref (g 0 0)), (1, .int x1), (2, .int x2), (3, .int x3), (4, .int x4), (5, .int x5)]) X.1 X.2.1 dX8_copy_31 hl (by decide) rfl (fun ls hl => ?_)
          refine lv_aload X.1 X.2.1 dX8_copy_33 (lv_at hl 1 rfl) ?_
          refine z_get X hK hP hiX5 11 rfl rfl 0 (by decide) (bw_in W31_10) rfl dX8_copy_35 ?_
          refine lv_if_ne (tgt := 49) X.1 X.2.1 dX8_copy_38 (by decide) (fun c171 => ?_) (fun c171 => ?_)
          · have hf := ite_f hf c171
            refine lv_aload_n X.1 X.2.1 dX8_copy_49 rfl (lv_at hl 2 rfl) ?_
            refine lv_iconst (v := 1) X.1 X.2.1 dX8_copy_50 (by decide) ?_
            obtain ⟨r172, z173, hc174, hf⟩ := bd2_e hf
            refine z_V (n := 1) (As := [.int 1]) (rest := []) (ci := 8) (q0 := 0) X hK hN (kX8_find l D K g z0 y0 _ 1 r172 z173 hc174) (bw_V W31_16 W31_17 W31_18 W1_2 W31_19) rfl ⟨rfl, rfl⟩ (by decide +kernel) rfl ⟨Nat.le_of_ble_eq_true rfl, Nat.le_of_ble_eq_true rfl⟩ hP hD rfl rfl (zj_same hD hS hA) hS hl.1 rfl (Nat.le_of_ble_eq_true rfl) dX8_copy_51 ⟨Nat.zero_le _, Nat.zero_le _⟩ rfl (fun H locs hP hD hS => ?_)
            obtain ⟨rfl, rfl⟩ := z_inj2 hf
            exact z_iret X hr hlk hP hD hS dX8_copy_54
          · have hf := ite_t hf c171
            refine lv_aload X.1 X.2.1 dX8_copy_41 (lv_at hl 0 rfl) ?_
            refine z_get X hK hP hiX5 11 rfl rfl 0 (by decide) (bw_in W31_10) rfl dX8_copy_43 ?_
            refine lv_if_eq (tgt := 55) X.1 X.2.1 dX8_copy_46 (by decide) (fun _ => ?_) (fun c => absurd c171 c)
            refine lv_aload X.1 X.2.1 dX8_copy_55 (lv_at hl 1 rfl) ?_
            refine z_get X hK hP hiX5 11 rfl rfl 1 (by decide) (bw_in W41_3) rfl dX8_copy_57 ?_
            refine lv_aload X.1 X.2.1 dX8_copy_60 (lv_at hl 0 rfl) ?_
            refine z_get X hK hP hiX5 11 rfl rfl 1 (by decide) (bw_in W41_3) rfl dX8_copy_62 ?_
            refine lv_icmp_eq (tgt := 74) X.1 X.2.1 dX8_copy_65 (by decide) (fun c175 => ?_) (fun c175 => ?_)
            · have hf := ite_t hf c175
              refine lv_aload X.1 X.2.1 dX8_copy_74 (lv_at hl 1 rfl) ?_
              refine lv_iload_n X.1 X.2.1 dX8_copy_76 rfl (lv_at hl 4 rfl) ?_
              refine lv_iload X.1 X.2.1 dX8_copy_77 (lv_at hl 7 rfl) ?_
              obtain ⟨r176, hc177, hf⟩ := bd1_e hf
              have hp178 : List.Perm (wbALL K g z0 y0) ((wbX5 K (g 5) (z0 5)) ++ ([0, 1, 2, 3, 4, 6, 7, 8, 9, 10, 11, 12, 13, 14].map (bfALL K g z0 y0)).flatten) := wbALL_perm [5, 0, 1, 2, 3, 4, 6, 7, 8, 9, 10, 11, 12, 13, 14] (by decide)
              refine z_V (n := 2) (As := [.int x2, .int x5]) (rest := []) (ci := 5) (q0 := 0) X hK hN (kX5_holds l D K (g 5) (z0 5) _ x2 x5 r176 hc177) (bw_V W41_8 W41_9 W41_10 W2_22 W41_11) rfl ⟨rfl, rfl⟩ (by decide +kernel) rfl ⟨Nat.le_of_ble_eq_true rfl, Nat.le_of_ble_eq_true rfl⟩ (hP.perm hp178).lef (hD.perm hp178).lef rfl rfl (zj_perm (ws' := wbALL K g z0 y0) hP hD hS hA hp178 (by refine List.Perm.symm ?_; exact wbALL_perm [5, 0, 1, 2, 3, 4, 6, 7, 8, 9, 10, 11, 12, 13, 14] (by decide))) hS hl.1 rfl (Nat.le_of_ble_eq_true rfl) dX8_copy_79 ⟨Nat.zero_le _, Nat.zero_le _⟩ rfl (fun H locs hP hD hS => ?_)
              refine lv_if_eq (tgt := 97) X.1 X.2.1 dX8_copy_82 (by decide) (fun c179 => ?_) (fun c179 => ?_)
              · have hf := ite_t hf c179
                refine lv_aload_n X.1 X.2.1 dX8_copy_97 rfl (lv_at hl 2 rfl) ?_
                refine lv_iconst (v := 2) X.1 X.2.1 dX8_copy_98 (by decide) ?_
                obtain ⟨r180, z181, hc182, hf⟩ := bd2_e hf
                refine z_V (n := 1) (As := [.int 2]) (rest := []) (ci := 8) (q0 := 0) X hK hN (kX8_find l D K g z0 y0 _ 2 r180 z181 hc182) (bw_V W31_16 W31_17 W31_18 W1_2 W31_19) rfl ⟨rfl, rfl⟩ (by decide +kernel) rfl ⟨Nat.le_of_ble_eq_true rfl, Nat.le_of_ble_eq_true rfl⟩ hP hD rfl rfl (zj_same hD hS hA) hS hl.1 rfl (Nat.le_of_ble_eq_true rfl) dX8_copy_99 ⟨Nat.zero_le _, Nat.zero_le _⟩ rfl (fun H locs hP hD hS => ?_)
                obtain ⟨rfl, rfl⟩ := z_inj2 hf
                exact z_iret X hr hlk hP hD hS dX8_copy_102
              · have hf := ite_f hf c179
                refine lv_aload X.1 X.2.1 dX8_copy_85 (lv_at hl 0 rfl) ?_
                refine lv_iload X.1 X.2.1 dX8_copy_87 (lv_at hl 6 rfl) ?_
                refine lv_iload X.1 X.2.1 dX8_copy_89 (lv_at hl 7 rfl) ?_
                obtain ⟨r183, hc184, hf⟩ := bd1_e hf
                have hp185 : List.Perm (wbALL K g z0 y0) ((wbX5 K (g 5) (z0 5)) ++ ([0, 1, 2, 3, 4, 6, 7, 8, 9, 10, 11, 12, 13, 14].map (bfALL K g z0 y0)).flatten) := wbALL_perm [5, 0, 1, 2, 3, 4, 6, 7, 8, 9, 10, 11, 12, 13, 14] (by decide)
                refine z_V (n := 2) (As := [.int x4, .int x5]) (rest := []) (ci := 5) (q0 := 0) X hK hN (kX5_holds l D K (g 5) (z0 5) _ x4 x5 r183 hc184) (bw_V W41_8 W41_9 W41_10 W2_22 W41_11) rfl ⟨rfl, rfl⟩ (by decide +kernel) rfl ⟨Nat.le_of_ble_eq_true rfl, Nat.le_of_ble_eq_true rfl⟩ (hP.perm hp185).lef (hD.perm hp185).lef rfl rfl (zj_perm (ws' := wbALL K g z0 y0) hP hD hS hA hp185 (by refine List.Perm.symm ?_; exact wbALL_perm [5, 0, 1, 2, 3, 4, 6, 7, 8, 9, 10, 11, 12, 13, 14] (by decide))) hS hl.1 rfl (Nat.le_of_ble_eq_true rfl) dX8_copy_91 ⟨Nat.zero_le _, Nat.zero_le _⟩ rfl (fun H locs hP hD hS => ?_)
                refine lv_if_ne (tgt := 103) X.1 X.2.1 dX8_copy_94 (by decide) (fun c186 => ?_) (fun c186 => ?_)
                · have hf := ite_f hf c186
                  refine lv_aload X.1 X.2.1 dX8_copy_103 (lv_at hl 1 rfl) ?_
                  refine z_get X hK hP hiX5 11 rfl rfl 3 (by decide) (bw_in W31_12) rfl dX8_copy_105 ?_
                  refine lv_iload_n X.1 X.2.1 dX8_copy_108 rfl (lv_at hl 4 rfl) ?_
                  refine lv_aload X.1 X.2.1 dX8_copy_109 (lv_at hl 0 rfl) ?_
                  refine z_get X hK hP hiX5 11 rfl rfl 3 (by decide) (bw_in W31_12) rfl dX8_copy_111 ?_
                  refine lv_iload X.1 X.2.1 dX8_copy_114 (lv_at hl 6 rfl) ?_
                  refine lv_iload X.1 X.2.1 dX8_copy_116 (lv_at hl 7 rfl) ?_
                  obtain ⟨⟨⟨⟨ha187, ha188⟩, ha189⟩, ha190, ha191⟩, hf⟩ := asr_e hf
                  obtain ⟨z192, ez192, hf⟩ := stp_e hf
                  refine z_acopy (ws' := wbALL K g z192 y0) X hK hP hD hS (bw_in W41_4) (bw_in W41_5) (bw_in W41_6) (bw_in W41_7) hl.1 12 12 rfl rfl ha187 ha188 ha189 ha190 ha191 (Nat.le_of_ble_eq_true rfl) (Nat.le_of_ble_eq_true rfl) dX8_copy_118 (by rw [ez192]; rfl) (fun H locs hP hD hS => ?_)
                  refine lv_iconst (v := 1) X.1 X.2.1 dX8_copy_121 (by decide) ?_
                  obtain ⟨rfl, rfl⟩ := z_inj2 hf
                  exact z_iret X hr hlk hP hD hS dX8_copy_122
                · have hf := ite_t hf c186
                  refine lv_aload_n X.1 X.2.1 dX8_copy_97 rfl (lv_at hl 2 rfl) ?_
                  refine lv_iconst (v := 2) X.1 X.2.1 dX8_copy_98 (by decide) ?_
                  obtain ⟨r193, z194, hc195, hf⟩ := bd2_e hf
                  refine z_V (n := 1) (As := [.int 2]) (rest := []) (ci := 8) (q0 := 0) X hK hN (kX8_find l D K g z0 y0 _ 2 r193 z194 hc195) (bw_V W31_16 W31_17 W31_18 W1_2 W31_19) rfl ⟨rfl, rfl⟩ (by decide +kernel) rfl ⟨Nat.le_of_ble_eq_true rfl, Nat.le_of_ble_eq_true rfl⟩ hP hD rfl rfl (zj_same hD hS hA) hS hl.1 rfl (Nat.le_of_ble_eq_true rfl) dX8_copy_99 ⟨Nat.zero_le _, Nat.zero_le _⟩ rfl (fun H locs hP hD hS => ?_)
                  obtain ⟨rfl, rfl⟩ := z_inj2 hf
                  exact z_iret X hr hlk hP hD hS dX8_copy_102
            · have hf := ite_f hf c175
              refine lv_aload_n X.1 X.2.1 dX8_copy_68 rfl (lv_at hl 2 rfl) ?_
              refine lv_iconst (v := 4) X.1 X.2.1 dX8_copy_69 (by decide) ?_
              obtain ⟨r196, z197, hc198, hf⟩ := bd2_e hf
              refine z_V (n := 1) (As := [.int 4]) (rest := []) (ci := 8) (q0 := 0) X hK hN (kX8_find l D K g z0 y0 _ 4 r196 z197 hc198) (bw_V W31_16 W31_17 W31_18 W1_2 W31_19) rfl ⟨rfl, rfl⟩ (by decide +kernel) rfl ⟨Nat.le_of_ble_eq_true rfl, Nat.le_of_ble_eq_true rfl⟩ hP hD rfl rfl (zj_same hD hS hA) hS hl.1 rfl (Nat.le_of_ble_eq_true rfl) dX8_copy_70 ⟨Nat.zero_le _, Nat.zero_le _⟩ rfl (fun H locs hP hD hS => ?_)
              obtain ⟨rfl, rfl⟩ := z_inj2 hf
              exact z_iret X hr hlk hP hD hS dX8_copy_73
        have hf := ite_f hf c170
        by_cases c199 : x3 = 2
        · have hf := ite_t hf c199
          refine z_aald X hK hP 2 3 rfl rfl (by rw [c199]; exact vp_lit _ _ (by decide)) (by rw [c199] <;> rfl) dX8_copy_30 ?_
          refine lv_astore (lv' := [(7, .ref (g 6 0)), (6, .ref (g 5 0)), (0, .ref (g 0 0)), (1, .int x1), (2, .int x2), (3, .int x3), (4, .int x4), (5, .int x5)]) X.1 X.2.1 dX8_copy_31 hl (by decide) rfl (fun ls hl => ?_)
          refine lv_aload X.1 X.2.1 dX8_copy_33 (lv_at hl 1 rfl) ?_
          refine z_get X hK hP hiX5 11 rfl rfl 0 (by decide) (bw_in W31_10) rfl dX8_copy_35 ?_
          refine lv_if_ne (tgt := 49) X.1 X.2.1 dX8_copy_38 (by decide) (fun c200 => ?_) (fun c200 => ?_)
          · have hf := ite_f hf c200
            refine lv_aload_n X.1 X.2.1 dX8_copy_49 rfl (lv_at hl 2 rfl) ?_
            refine lv_iconst (v := 1) X.1 X.2.1 dX8_copy_50 (by decide) ?_
            obtain ⟨r201, z202, hc203, hf⟩ := bd2_e hf
            refine z_V (n := 1) (As := [.int 1]) (rest := []) (ci := 8) (q0 := 0) X hK hN (kX8_find l D K g z0 y0 _ 1 r201 z202 hc203) (bw_V W31_16 W31_17 W31_18 W1_2 W31_19) rfl ⟨rfl, rfl⟩ (by decide +kernel) rfl ⟨Nat.le_of_ble_eq_true rfl, Nat.le_of_ble_eq_true rfl⟩ hP hD rfl rfl (zj_same hD hS hA) hS hl.1 rfl (Nat.le_of_ble_eq_true rfl) dX8_copy_51 ⟨Nat.zero_le _, Nat.zero_le _⟩ rfl (fun H locs hP hD hS => ?_)
            obtain ⟨rfl, rfl⟩ := z_inj2 hf
            exact z_iret X hr hlk hP hD hS dX8_copy_54
          · have hf := ite_t hf c200
            refine lv_aload X.1 X.2.1 dX8_copy_41 (lv_at hl 0 rfl) ?_
            refine z_get X hK hP hiX5 13 rfl rfl 0 (by decide) (bw_in W31_10) rfl dX8_copy_43 ?_
            refine lv_if_eq (tgt := 55) X.1 X.2.1 dX8_copy_46 (by decide) (fun c204 => ?_) (fun c204 => ?_)
            · have hf := ite_t hf c204
              refine lv_aload X.1 X.2.1 dX8_copy_55 (lv_at hl 1 rfl) ?_
              refine z_get X hK hP hiX5 11 rfl rfl 1 (by decide) (bw_in W41_3) rfl dX8_copy_57 ?_
              refine lv_aload X.1 X.2.1 dX8_copy_60 (lv_at hl 0 rfl) ?_
              refine z_get X hK hP hiX5 13 rfl rfl 1 (by decide) (bw_in W41_3) rfl dX8_copy_62 ?_
              refine lv_icmp_eq (tgt := 74) X.1 X.2.1 dX8_copy_65 (by decide) (fun c205 => ?_) (fun c205 => ?_)
              · have hf := ite_t hf c205
                refine lv_aload X.1 X.2.1 dX8_copy_74 (lv_at hl 1 rfl) ?_
                refine lv_iload_n X.1 X.2.1 dX8_copy_76 rfl (lv_at hl 4 rfl) ?_
                refine lv_iload X.1 X.2.1 dX8_copy_77 (lv_at hl 7 rfl) ?_
                obtain ⟨r206, hc207, hf⟩ := bd1_e hf
                have hp208 : List.Perm (wbALL K g z0 y0) ((wbX5 K (g 5) (z0 5)) ++ ([0, 1, 2, 3, 4, 6, 7, 8, 9, 10, 11, 12, 13, 14].map (bfALL K g z0 y0)).flatten) := wbALL_perm [5, 0, 1, 2, 3, 4, 6, 7, 8, 9, 10, 11, 12, 13, 14] (by decide)
                refine z_V (n := 2) (As := [.int x2, .int x5]) (rest := []) (ci := 5) (q0 := 0) X hK hN (kX5_holds l D K (g 5) (z0 5) _ x2 x5 r206 hc207) (bw_V W41_8 W41_9 W41_10 W2_22 W41_11) rfl ⟨rfl, rfl⟩ (by decide +kernel) rfl ⟨Nat.le_of_ble_eq_true rfl, Nat.le_of_ble_eq_true rfl⟩ (hP.perm hp208).lef (hD.perm hp208).lef rfl rfl (zj_perm (ws' := wbALL K g z0 y0) hP hD hS hA hp208 (by refine List.Perm.symm ?_; exact wbALL_perm [5, 0, 1, 2, 3, 4, 6, 7, 8, 9, 10, 11, 12, 13, 14] (by decide))) hS hl.1 rfl (Nat.le_of_ble_eq_true rfl) dX8_copy_79 ⟨Nat.zero_le _, Nat.zero_le _⟩ rfl (fun H locs hP hD hS => ?_)
                refine lv_if_eq (tgt := 97) X.1 X.2.1 dX8_copy_82 (by decide) (fun c209 => ?_) (fun c209 => ?_)
                · have hf := ite_t hf c209
                  refine lv_aload_n X.1 X.2.1 dX8_copy_97 rfl (lv_at hl 2 rfl) ?_
                  refine lv_iconst (v := 2) X.1 X.2.1 dX8_copy_98 (by decide) ?_
                  obtain ⟨r210, z211, hc212, hf⟩ := bd2_e hf
                  refine z_V (n := 1) (As := [.int 2]) (rest := []) (ci := 8) (q0 := 0) X hK hN (kX8_find l D K g z0 y0 _ 2 r210 z211 hc212) (bw_V W31_16 W31_17 W31_18 W1_2 W31_19) rfl ⟨rfl, rfl⟩ (by decide +kernel) rfl ⟨Nat.le_of_ble_eq_true rfl, Nat.le_of_ble_eq_true rfl⟩ hP hD rfl rfl (zj_same hD hS hA) hS hl.1 rfl (Nat.le_of_ble_eq_true rfl) dX8_copy_99 ⟨Nat.zero_le _, Nat.zero_le _⟩ rfl (fun H locs hP hD hS => ?_)
                  obtain ⟨rfl, rfl⟩ := z_inj2 hf
                  exact z_iret X hr hlk hP hD hS dX8_copy_102
                · have hf := ite_f hf c209
                  refine lv_aload X.1 X.2.1 dX8_copy_85 (lv_at hl 0 rfl) ?_
                  refine lv_iload X.1 X.2.1 dX8_copy_87 (lv_at hl 6 rfl) ?_
                  refine lv_iload X.1 X.2.1 dX8_copy_89 (lv_at hl 7 rfl) ?_
                  obtain ⟨r213, hc214, hf⟩ := bd1_e hf
                  have hp215 : List.Perm (wbALL K g z0 y0) ((wbX5 K (g 6) (z0 6)) ++ ([0, 1, 2, 3, 4, 5, 7, 8, 9, 10, 11, 12, 13, 14].map (bfALL K g z0 y0)).flatten) := wbALL_perm [6, 0, 1, 2, 3, 4, 5, 7, 8, 9, 10, 11, 12, 13, 14] (by decide)
                  refine z_V (n := 2) (As := [.int x4, .int x5]) (rest := []) (ci := 5) (q0 := 0) X hK hN (kX5_holds l D K (g 6) (z0 6) _ x4 x5 r213 hc214) (bw_V W41_8 W41_9 W41_10 W2_22 W41_11) rfl ⟨rfl, rfl⟩ (by decide +kernel) rfl ⟨Nat.le_of_ble_eq_true rfl, Nat.le_of_ble_eq_true rfl⟩ (hP.perm hp215).lef (hD.perm hp215).lef rfl rfl (zj_perm (ws' := wbALL K g z0 y0) hP hD hS hA hp215 (by refine List.Perm.symm ?_; exact wbALL_perm [6, 0, 1, 2, 3, 4, 5, 7, 8, 9, 10, 11, 12, 13, 14] (by decide))) hS hl.1 rfl (Nat.le_of_ble_eq_true rfl) dX8_copy_91 ⟨Nat.zero_le _, Nat.zero_le _⟩ rfl (fun H locs hP hD hS => ?_)
                  refine lv_if_ne (tgt := 103) X.1 X.2.1 dX8_copy_94 (by decide) (fun c216 => ?_) (fun c216 => ?_)
                  · have hf := ite_f hf c216
                    refine lv_aload X.1 X.2.1 dX8_copy_103 (lv_at hl 1 rfl) ?_
                    refine z_get X hK hP hiX5 11 rfl rfl 3 (by decide) (bw_in W31_12) rfl dX8_copy_105 ?_
                    refine lv_iload_n X.1 X.2.1 dX8_copy_108 rfl (lv_at hl 4 rfl) ?_
                    refine lv_aload X.1 X.2.1 dX8_copy_109 (lv_at hl 0 rfl) ?_
                    refine z_get X hK hP hiX5 13 rfl rfl 3 (by decide) (bw_in W31_12) rfl dX8_copy_111 ?_
                    refine lv_iload X.1 X.2.1 dX8_copy_114 (lv_at hl 6 rfl) ?_
                    refine lv_iload X.1 X.2.1 dX8_copy_116 (lv_at hl 7 rfl) ?_
                    obtain ⟨⟨⟨⟨ha217, ha218⟩, ha219⟩, ha220, ha221⟩, hf⟩ := asr_e hf
                    obtain ⟨z222, ez222, hf⟩ := stp_e hf
                    refine z_acopy (ws' := wbALL K g z222 y0) X hK hP hD hS (bw_in W41_4) (bw_in W41_5) (bw_in W41_6) (bw_in W41_7) hl.1 12 14 rfl rfl ha217 ha218 ha219 ha220 ha221 (Nat.le_of_ble_eq_true rfl) (Nat.le_of_ble_eq_true rfl) dX8_copy_118 (by rw [ez222]; rfl) (fun H locs hP hD hS => ?_)
                    refine lv_iconst (v := 1) X.1 X.2.1 dX8_copy_121 (by decide) ?_
                    obtain ⟨rfl, rfl⟩ := z_inj2 hf
                    exact z_iret X hr hlk hP hD hS dX8_copy_122
                  · have hf := ite_t hf c216
                    refine lv_aload_n X.1 X.2.1 dX8_copy_97 rfl (lv_at hl 2 rfl) ?_
                    refine lv_iconst (v := 2) X.1 X.2.1 dX8_copy_98 (by decide) ?_
                    obtain ⟨r223, z224, hc225, hf⟩ := bd2_e hf
                    refine z_V (n := 1) (As := [.int 2]) (rest := []) (ci := 8) (q0 := 0) X hK hN (kX8_find l D K g z0 y0 _ 2 r223 z224 hc225) (bw_V W31_16 W31_17 W31_18 W1_2 W31_19) rfl ⟨rfl, rfl⟩ (by decide +kernel) rfl ⟨Nat.le_of_ble_eq_true rfl, Nat.le_of_ble_eq_true rfl⟩ hP hD rfl rfl (zj_same hD hS hA) hS hl.1 rfl (Nat.le_of_ble_eq_true rfl) dX8_copy_99 ⟨Nat.zero_le _, Nat.zero_le _⟩ rfl (fun H locs hP hD hS => ?_)
                    obtain ⟨rfl, rfl⟩ := z_inj2 hf
                    exact z_iret X hr hlk hP hD hS dX8_copy_102
              · have hf := ite_f hf c205
                refine lv_aload_n X.1 X.2.1 dX8_copy_68 rfl (lv_at hl 2 rfl) ?_
                refine lv_iconst (v := 4) X.1 X.2.1 dX8_copy_69 (by decide) ?_
                obtain ⟨r226, z227, hc228, hf⟩ := bd2_e hf
                refine z_V (n := 1) (As := [.int 4]) (rest := []) (ci := 8) (q0 := 0) X hK hN (kX8_find l D K g z0 y0 _ 4 r226 z227 hc228) (bw_V W31_16 W31_17 W31_18 W1_2 W31_19) rfl ⟨rfl, rfl⟩ (by decide +kernel) rfl ⟨Nat.le_of_ble_eq_true rfl, Nat.le_of_ble_eq_true rfl⟩ hP hD rfl rfl (zj_same hD hS hA) hS hl.1 rfl (Nat.le_of_ble_eq_true rfl) dX8_copy_70 ⟨Nat.zero_le _, Nat.zero_le _⟩ rfl (fun H locs hP hD hS => ?_)
                obtain ⟨rfl, rfl⟩ := z_inj2 hf
                exact z_iret X hr hlk hP hD hS dX8_copy_73
            · have hf := ite_f hf c204
              refine lv_aload_n X.1 X.2.1 dX8_copy_49 rfl (lv_at hl 2 rfl) ?_
              refine lv_iconst (v := 1) X.1 X.2.1 dX8_copy_50 (by decide) ?_
              obtain ⟨r229, z230, hc231, hf⟩ := bd2_e hf
              refine z_V (n := 1) (As := [.int 1]) (rest := []) (ci := 8) (q0 := 0) X hK hN (kX8_find l D K g z0 y0 _ 1 r229 z230 hc231) (bw_V W31_16 W31_17 W31_18 W1_2 W31_19) rfl ⟨rfl, rfl⟩ (by decide +kernel) rfl ⟨Nat.le_of_ble_eq_true rfl, Nat.le_of_ble_eq_true rfl⟩ hP hD rfl rfl (zj_same hD hS hA) hS hl.1 rfl (Nat.le_of_ble_eq_true rfl) dX8_copy_51 ⟨Nat.zero_le _, Nat.zero_le _⟩ rfl (fun H locs hP hD hS => ?_)
              obtain ⟨rfl, rfl⟩ := z_inj2 hf
              exact z_iret X hr hlk hP hD hS dX8_copy_54
        have hf := ite_f hf c199
        by_cases c232 : x3 = 3
        · have hf := ite_t hf c232
          refine z_aald X hK hP 2 3 rfl rfl (by rw [c232]; exact vp_lit _ _ (by decide)) (by rw [c232] <;> rfl) dX8_copy_30 ?_
          refine lv_astore (lv' := [(7, .ref (g 7 0)), (6, .ref (g 5 0)), (0, .ref (g 0 0)), (1, .int x1), (2, .int x2), (3, .int x3), (4, .int x4), (5, .int x5)]) X.1 X.2.1 dX8_copy_31 hl (by decide) rfl (fun ls hl => ?_)
          refine lv_aload X.1 X.2.1 dX8_copy_33 (lv_at hl 1 rfl) ?_
          refine z_get X hK hP hiX5 11 rfl rfl 0 (by decide) (bw_in W31_10) rfl dX8_copy_35 ?_
          refine lv_if_ne (tgt := 49) X.1 X.2.1 dX8_copy_38 (by decide) (fun c233 => ?_) (fun c233 => ?_)
          · have hf := ite_f hf c233
            refine lv_aload_n X.1 X.2.1 dX8_copy_49 rfl (lv_at hl 2 rfl) ?_
            refine lv_iconst (v := 1) X.1 X.2.1 dX8_copy_50 (by decide) ?_
            obtain ⟨r234, z235, hc236, hf⟩ := bd2_e hf
            refine z_V (n := 1) (As := [.int 1]) (rest := []) (ci := 8) (q0 := 0) X hK hN (kX8_find l D K g z0 y0 _ 1 r234 z235 hc236) (bw_V W31_16 W31_17 W31_18 W1_2 W31_19) rfl ⟨rfl, rfl⟩ (by decide +kernel) rfl ⟨Nat.le_of_ble_eq_true rfl, Nat.le_of_ble_eq_true rfl⟩ hP hD rfl rfl (zj_same hD hS hA) hS hl.1 rfl (Nat.le_of_ble_eq_true rfl) dX8_copy_51 ⟨Nat.zero_le _, Nat.zero_le _⟩ rfl (fun H locs hP hD hS => ?_)
            obtain ⟨rfl, rfl⟩ := z_inj2 hf
            exact z_iret X hr hlk hP hD hS dX8_copy_54
          · have hf := ite_t hf c233
            refine lv_aload X.1 X.2.1 dX8_copy_41 (lv_at hl 0 rfl) ?_
            refine z_get X hK hP hiX5 15 rfl rfl 0 (by decide) (bw_in W31_10) rfl dX8_copy_43 ?_
            refine lv_if_eq (tgt := 55) X.1 X.2.1 dX8_copy_46 (by decide) (fun c237 => ?_) (fun c237 => ?_)
            · have hf := ite_t hf c237
              refine lv_aload X.1 X.2.1 dX8_copy_55 (lv_at hl 1 rfl) ?_
              refine z_get X hK hP hiX5 11 rfl rfl 1 (by decide) (bw_in W41_3) rfl dX8_copy_57 ?_
              refine lv_aload X.1 X.2.1 dX8_copy_60 (lv_at hl 0 rfl) ?_
              refine z_get X hK hP hiX5 15 rfl rfl 1 (by decide) (bw_in W41_3) rfl dX8_copy_62 ?_
              refine lv_icmp_eq (tgt := 74) X.1 X.2.1 dX8_copy_65 (by decide) (fun c238 => ?_) (fun c238 => ?_)
              · have hf := ite_t hf c238
                refine lv_aload X.1 X.2.1 dX8_copy_74 (lv_at hl 1 rfl) ?_
                refine lv_iload_n X.1 X.2.1 dX8_copy_76 rfl (lv_at hl 4 rfl) ?_
                refine lv_iload X.1 X.2.1 dX8_copy_77 (lv_at hl 7 rfl) ?_
                obtain ⟨r239, hc240, hf⟩ := bd1_e hf
                have hp241 : List.Perm (wbALL K g z0 y0) ((wbX5 K (g 5) (z0 5)) ++ ([0, 1, 2, 3, 4, 6, 7, 8, 9, 10, 11, 12, 13, 14].map (bfALL K g z0 y0)).flatten) := wbALL_perm [5, 0, 1, 2, 3, 4, 6, 7, 8, 9, 10, 11, 12, 13, 14] (by decide)
                refine z_V (n := 2) (As := [.int x2, .int x5]) (rest := []) (ci := 5) (q0 := 0) X hK hN (kX5_holds l D K (g 5) (z0 5) _ x2 x5 r239 hc240) (bw_V W41_8 W41_9 W41_10 W2_22 W41_11) rfl ⟨rfl, rfl⟩ (by decide +kernel) rfl ⟨Nat.le_of_ble_eq_true rfl, Nat.le_of_ble_eq_true rfl⟩ (hP.perm hp241).lef (hD.perm hp241).lef rfl rfl (zj_perm (ws' := wbALL K g z0 y0) hP hD hS hA hp241 (by refine List.Perm.symm ?_; exact wbALL_perm [5, 0, 1, 2, 3, 4, 6, 7, 8, 9, 10, 11, 12, 13, 14] (by decide))) hS hl.1 rfl (Nat.le_of_ble_eq_true rfl) dX8_copy_79 ⟨Nat.zero_le _, Nat.zero_le _⟩ rfl (fun H locs hP hD hS => ?_)
                refine lv_if_eq (tgt := 97) X.1 X.2.1 dX8_copy_82 (by decide) (fun c242 => ?_) (fun c242 => ?_)
                · have hf := ite_t hf c242
                  refine lv_aload_n X.1 X.2.1 dX8_copy_97 rfl (lv_at hl 2 rfl) ?_
                  refine lv_iconst (v := 2) X.1 X.2.1 dX8_copy_98 (by decide) ?_
                  obtain ⟨r243, z244, hc245, hf⟩ := bd2_e hf
                  refine z_V (n := 1) (As := [.int 2]) (rest := []) (ci := 8) (q0 := 0) X hK hN (kX8_find l D K g z0 y0 _ 2 r243 z244 hc245) (bw_V W31_16 W31_17 W31_18 W1_2 W31_19) rfl ⟨rfl, rfl⟩ (by decide +kernel) rfl ⟨Nat.le_of_ble_eq_true rfl, Nat.le_of_ble_eq_true rfl⟩ hP hD rfl rfl (zj_same hD hS hA) hS hl.1 rfl (Nat.le_of_ble_eq_true rfl) dX8_copy_99 ⟨Nat.zero_le _, Nat.zero_le _⟩ rfl (fun H locs hP hD hS => ?_)
                  obtain ⟨rfl, rfl⟩ := z_inj2 hf
                  exact z_iret X hr hlk hP hD hS dX8_copy_102
                · have hf := ite_f hf c242
                  refine lv_aload X.1 X.2.1 dX8_copy_85 (lv_at hl 0 rfl) ?_
                  refine lv_iload X.1 X.2.1 dX8_copy_87 (lv_at hl 6 rfl) ?_
                  refine lv_iload X.1 X.2.1 dX8_copy_89 (lv_at hl 7 rfl) ?_
                  obtain ⟨r246, hc247, hf⟩ := bd1_e hf
                  have hp248 : List.Perm (wbALL K g z0 y0) ((wbX5 K (g 7) (z0 7)) ++ ([0, 1, 2, 3, 4, 5, 6, 8, 9, 10, 11, 12, 13, 14].map (bfALL K g z0 y0)).flatten) := wbALL_perm [7, 0, 1, 2, 3, 4, 5, 6, 8, 9, 10, 11, 12, 13, 14] (by decide)
                  refine z_V (n := 2) (As := [.int x4, .int x5]) (rest := []) (ci := 5) (q0 := 0) X hK hN (kX5_holds l D K (g 7) (z0 7) _ x4 x5 r246 hc247) (bw_V W41_8 W41_9 W41_10 W2_22 W41_11) rfl ⟨rfl, rfl⟩ (by decide +kernel) rfl ⟨Nat.le_of_ble_eq_true rfl, Nat.le_of_ble_eq_true rfl⟩ (hP.perm hp248).lef (hD.perm hp248).lef rfl rfl (zj_perm (ws' := wbALL K g z0 y0) hP hD hS hA hp248 (by refine List.Perm.symm ?_; exact wbALL_perm [7, 0, 1, 2, 3, 4, 5, 6, 8, 9, 10, 11, 12, 13, 14] (by decide))) hS hl.1 rfl (Nat.le_of_ble_eq_true rfl) dX8_copy_91 ⟨Nat.zero_le _, Nat.zero_le _⟩ rfl (fun H locs hP hD hS => ?_)
                  refine lv_if_ne (tgt := 103) X.1 X.2.1 dX8_copy_94 (by decide) (fun c249 => ?_) (fun c249 => ?_)
                  · have hf := ite_f hf c249
                    refine lv_aload X.1 X.2.1 dX8_copy_103 (lv_at hl 1 rfl) ?_
                    refine z_get X hK hP hiX5 11 rfl rfl 3 (by decide) (bw_in W31_12) rfl dX8_copy_105 ?_
                    refine lv_iload_n X.1 X.2.1 dX8_copy_108 rfl (lv_at hl 4 rfl) ?_
                    refine lv_aload X.1 X.2.1 dX8_copy_109 (lv_at hl 0 rfl) ?_
                    refine z_get X hK hP hiX5 15 rfl rfl 3 (by decide) (bw_in W31_12) rfl dX8_copy_111 ?_
                    refine lv_iload X.1 X.2.1 dX8_copy_114 (lv_at hl 6 rfl) ?_
                    refine lv_iload X.1 X.2.1 dX8_copy_116 (lv_at hl 7 rfl) ?_
                    obtain ⟨⟨⟨⟨ha250, ha251⟩, ha252⟩, ha253, ha254⟩, hf⟩ := asr_e hf
                    obtain ⟨z255, ez255, hf⟩ := stp_e hf
                    refine z_acopy (ws' := wbALL K g z255 y0) X hK hP hD hS (bw_in W41_4) (bw_in W41_5) (bw_in W41_6) (bw_in W41_7) hl.1 12 16 rfl rfl ha250 ha251 ha252 ha253 ha254 (Nat.le_of_ble_eq_true rfl) (Nat.le_of_ble_eq_true rfl) dX8_copy_118 (by rw [ez255]; rfl) (fun H locs hP hD hS => ?_)
                    refine lv_iconst (v := 1) X.1 X.2.1 dX8_copy_121 (by decide) ?_
                    obtain ⟨rfl, rfl⟩ := z_inj2 hf
                    exact z_iret X hr hlk hP hD hS dX8_copy_122
                  · have hf := ite_t hf c249
                    refine lv_aload_n X.1 X.2.1 dX8_copy_97 rfl (lv_at hl 2 rfl) ?_
                    refine lv_iconst (v := 2) X.1 X.2.1 dX8_copy_98 (by decide) ?_
                    obtain ⟨r256, z257, hc258, hf⟩ := bd2_e hf
                    refine z_V (n := 1) (As := [.int 2]) (rest := []) (ci := 8) (q0 := 0) X hK hN (kX8_find l D K g z0 y0 _ 2 r256 z257 hc258) (bw_V W31_16 W31_17 W31_18 W1_2 W31_19) rfl ⟨rfl, rfl⟩ (by decide +kernel) rfl ⟨Nat.le_of_ble_eq_true rfl, Nat.le_of_ble_eq_true rfl⟩ hP hD rfl rfl (zj_same hD hS hA) hS hl.1 rfl (Nat.le_of_ble_eq_true rfl) dX8_copy_99 ⟨Nat.zero_le _, Nat.zero_le _⟩ rfl (fun H locs hP hD hS => ?_)
                    obtain ⟨rfl, rfl⟩ := z_inj2 hf
                    exact z_iret X hr hlk hP hD hS dX8_copy_102
              · have hf := ite_f hf c238
                refine lv_aload_n X.1 X.2.1 dX8_copy_68 rfl (lv_at hl 2 rfl) ?_
                refine lv_iconst (v := 4) X.1 X.2.1 dX8_copy_69 (by decide) ?_
                obtain ⟨r259, z260, hc261, hf⟩ := bd2_e hf
                refine z_V (n := 1) (As := [.int 4]) (rest := []) (ci := 8) (q0 := 0) X hK hN (kX8_find l D K g z0 y0 _ 4 r259 z260 hc261) (bw_V W31_16 W31_17 W31_18 W1_2 W31_19) rfl ⟨rfl, rfl⟩ (by decide +kernel) rfl ⟨Nat.le_of_ble_eq_true rfl, Nat.le_of_ble_eq_true rfl⟩ hP hD rfl rfl (zj_same hD hS hA) hS hl.1 rfl (Nat.le_of_ble_eq_true rfl) dX8_copy_70 ⟨Nat.zero_le _, Nat.zero_le _⟩ rfl (fun H locs hP hD hS => ?_)
                obtain ⟨rfl, rfl⟩ := z_inj2 hf
                exact z_iret X hr hlk hP hD hS dX8_copy_73
            · have hf := ite_f hf c237
              refine lv_aload_n X.1 X.2.1 dX8_copy_49 rfl (lv_at hl 2 rfl) ?_
              refine lv_iconst (v := 1) X.1 X.2.1 dX8_copy_50 (by decide) ?_
              obtain ⟨r262, z263, hc264, hf⟩ := bd2_e hf
              refine z_V (n := 1) (As := [.int 1]) (rest := []) (ci := 8) (q0 := 0) X hK hN (kX8_find l D K g z0 y0 _ 1 r262 z263 hc264) (bw_V W31_16 W31_17 W31_18 W1_2 W31_19) rfl ⟨rfl, rfl⟩ (by decide +kernel) rfl ⟨Nat.le_of_ble_eq_true rfl, Nat.le_of_ble_eq_true rfl⟩ hP hD rfl rfl (zj_same hD hS hA) hS hl.1 rfl (Nat.le_of_ble_eq_true rfl) dX8_copy_51 ⟨Nat.zero_le _, Nat.zero_le _⟩ rfl (fun H locs hP hD hS => ?_)
              obtain ⟨rfl, rfl⟩ := z_inj2 hf
              exact z_iret X hr hlk hP hD hS dX8_copy_54
        have hf := ite_f hf c232
        cases hf
      have hf := ite_f hf c136
      by_cases c265 : x1 = 2
      · have hf := ite_t hf c265
        refine z_aald X hK hP 2 3 rfl rfl (by rw [c265]; exact vp_lit _ _ (by decide)) (by rw [c265] <;> rfl) dX8_copy_22 ?_
        refine lv_astore (lv' := [(6, .ref (g 6 0)), (0, .ref (g 0 0)), (1, .int x1), (2, .int x2), (3, .int x3), (4, .int x4), (5, .int x5)]) X.1 X.2.1 dX8_copy_23 hl (by decide) rfl (fun ls hl => ?_)
        refine lv_aload_n X.1 X.2.1 dX8_copy_25 rfl (lv_at hl 1 rfl) ?_
        refine z_get X hK hP hiX8 0 rfl rfl 1 (by decide) (bw_in W1_15) rfl dX8_copy_26 ?_
        refine lv_iload_n X.1 X.2.1 dX8_copy_29 rfl (lv_at hl 4 rfl) ?_
        by_cases c266 : x3 = 0
        · have hf := ite_t hf c266
          refine z_aald X hK hP 2 3 rfl rfl (by rw [c266]; exact vp_lit _ _ (by decide)) (by rw [c266] <;> rfl) dX8_copy_30 ?_
          refine lv_astore (lv' := [(7, .ref (g 4 0)), (6, .ref (g 6 0)), (0, .ref (g 0 0)), (1, .int x1), (2, .int x2), (3, .int x3), (4, .int x4), (5, .int x5)]) X.1 X.2.1 dX8_copy_31 hl (by decide) rfl (fun ls hl => ?_)
          refine lv_aload X.1 X.2.1 dX8_copy_33 (lv_at hl 1 rfl) ?_
          refine z_get X hK hP hiX5 13 rfl rfl 0 (by decide) (bw_in W31_10) rfl dX8_copy_35 ?_
          refine lv_if_ne (tgt := 49) X.1 X.2.1 dX8_copy_38 (by decide) (fun c267 => ?_) (fun c267 => ?_)
          · have hf := ite_f hf c267
            refine lv_aload_n X.1 X.2.1 dX8_copy_49 rfl (lv_at hl 2 rfl) ?_
            refine lv_iconst (v := 1) X.1 X.2.1 dX8_copy_50 (by decide) ?_
            obtain ⟨r268, z269, hc270, hf⟩ := bd2_e hf
            refine z_V (n := 1) (As := [.int 1]) (rest := []) (ci := 8) (q0 := 0) X hK hN (kX8_find l D K g z0 y0 _ 1 r268 z269 hc270) (bw_V W31_16 W31_17 W31_18 W1_2 W31_19) rfl ⟨rfl, rfl⟩ (by decide +kernel) rfl ⟨Nat.le_of_ble_eq_true rfl, Nat.le_of_ble_eq_true rfl⟩ hP hD rfl rfl (zj_same hD hS hA) hS hl.1 rfl (Nat.le_of_ble_eq_true rfl) dX8_copy_51 ⟨Nat.zero_le _, Nat.zero_le _⟩ rfl (fun H locs hP hD hS => ?_)
            obtain ⟨rfl, rfl⟩ := z_inj2 hf
            exact z_iret X hr hlk hP hD hS dX8_copy_54
          · have hf := ite_t hf c267
            refine lv_aload X.1 X.2.1 dX8_copy_41 (lv_at hl 0 rfl) ?_
            refine z_get X hK hP hiX5 9 rfl rfl 0 (by decide) (bw_in W31_10) rfl dX8_copy_43 ?_
            refine lv_if_eq (tgt := 55) X.1 X.2.1 dX8_copy_46 (by decide) (fun c271 => ?_) (fun c271 => ?_)
            · have hf := ite_t hf c271
              refine lv_aload X.1 X.2.1 dX8_copy_55 (lv_at hl 1 rfl) ?_
              refine z_get X hK hP hiX5 13 rfl rfl 1 (by decide) (bw_in W41_3) rfl dX8_copy_57 ?_
              refine lv_aload X.1 X.2.1 dX8_copy_60 (lv_at hl 0 rfl) ?_
              refine z_get X hK hP hiX5 9 rfl rfl 1 (by decide) (bw_in W41_3) rfl dX8_copy_62 ?_
              refine lv_icmp_eq (tgt := 74) X.1 X.2.1 dX8_copy_65 (by decide) (fun c272 => ?_) (fun c272 => ?_)
              · have hf := ite_t hf c272
                refine lv_aload X.1 X.2.1 dX8_copy_74 (lv_at hl 1 rfl) ?_
                refine lv_iload_n X.1 X.2.1 dX8_copy_76 rfl (lv_at hl 4 rfl) ?_
                refine lv_iload X.1 X.2.1 dX8_copy_77 (lv_at hl 7 rfl) ?_
                obtain ⟨r273, hc274, hf⟩ := bd1_e hf
                have hp275 : List.Perm (wbALL K g z0 y0) ((wbX5 K (g 6) (z0 6)) ++ ([0, 1, 2, 3, 4, 5, 7, 8, 9, 10, 11, 12, 13, 14].map (bfALL K g z0 y0)).flatten) := wbALL_perm [6, 0, 1, 2, 3, 4, 5, 7, 8, 9, 10, 11, 12, 13, 14] (by decide)
                refine z_V (n := 2) (As := [.int x2, .int x5]) (rest := []) (ci := 5) (q0 := 0) X hK hN (kX5_holds l D K (g 6) (z0 6) _ x2 x5 r273 hc274) (bw_V W41_8 W41_9 W41_10 W2_22 W41_11) rfl ⟨rfl, rfl⟩ (by decide +kernel) rfl ⟨Nat.le_of_ble_eq_true rfl, Nat.le_of_ble_eq_true rfl⟩ (hP.perm hp275).lef (hD.perm hp275).lef rfl rfl (zj_perm (ws' := wbALL K g z0 y0) hP hD hS hA hp275 (by refine List.Perm.symm ?_; exact wbALL_perm [6, 0, 1, 2, 3, 4, 5, 7, 8, 9, 10, 11, 12, 13, 14] (by decide))) hS hl.1 rfl (Nat.le_of_ble_eq_true rfl) dX8_copy_79 ⟨Nat.zero_le _, Nat.zero_le _⟩ rfl (fun H locs hP hD hS => ?_)
                refine lv_if_eq (tgt := 97) X.1 X.2.1 dX8_copy_82 (by decide) (fun c276 => ?_) (fun c276 => ?_)
                · have hf := ite_t hf c276
                  refine lv_aload_n X.1 X.2.1 dX8_copy_97 rfl (lv_at hl 2 rfl) ?_
                  refine lv_iconst (v := 2) X.1 X.2.1 dX8_copy_98 (by decide) ?_
                  obtain ⟨r277, z278, hc279, hf⟩ := bd2_e hf
                  refine z_V (n := 1) (As := [.int 2]) (rest := []) (ci := 8) (q0 := 0) X hK hN (kX8_find l D K g z0 y0 _ 2 r277 z278 hc279) (bw_V W31_16 W31_17 W31_18 W1_2 W31_19) rfl ⟨rfl, rfl⟩ (by decide +kernel) rfl ⟨Nat.le_of_ble_eq_true rfl, Nat.le_of_ble_eq_true rfl⟩ hP hD rfl rfl (zj_same hD hS hA) hS hl.1 rfl (Nat.le_of_ble_eq_true rfl) dX8_copy_99 ⟨Nat.zero_le _, Nat.zero_le _⟩ rfl (fun H locs hP hD hS => ?_)
                  obtain ⟨rfl, rfl⟩ := z_inj2 hf
                  exact z_iret X hr hlk hP hD hS dX8_copy_102
                · have hf := ite_f hf c276
                  refine lv_aload X.1 X.2.1 dX8_copy_85 (lv_at hl 0 rfl) ?_
                  refine lv_iload X.1 X.2.1 dX8_copy_87 (lv_at hl 6 rfl) ?_
                  refine lv_iload X.1 X.2.1 dX8_copy_89 (lv_at hl 7 rfl) ?_
                  obtain ⟨r280, hc281, hf⟩ := bd1_e hf
                  have hp282 : List.Perm (wbALL K g z0 y0) ((wbX5 K (g 4) (z0 4)) ++ ([0, 1, 2, 3, 5, 6, 7, 8, 9, 10, 11, 12, 13, 14].map (bfALL K g z0 y0)).flatten) := wbALL_perm [4, 0, 1, 2, 3, 5, 6, 7, 8, 9, 10, 11, 12, 13, 14] (by decide)
                  refine z_V (n := 2) (As := [.int x4, .int x5]) (rest := []) (ci := 5) (q0 := 0) X hK hN (kX5_holds l D K (g 4) (z0 4) _ x4 x5 r280 hc281) (bw_V W41_8 W41_9 W41_10 W2_22 W41_11) rfl ⟨rfl, rfl⟩ (by decide +kernel) rfl ⟨Nat.le_of_ble_eq_true rfl, Nat.le_of_ble_eq_true rfl⟩ (hP.perm hp282).lef (hD.perm hp282).lef rfl rfl (zj_perm (ws' := wbALL K g z0 y0) hP hD hS hA hp282 (by refine List.Perm.symm ?_; exact wbALL_perm [4, 0, 1, 2, 3, 5, 6, 7, 8, 9, 10, 11, 12, 13, 14] (by decide))) hS hl.1 rfl (Nat.le_of_ble_eq_true rfl) dX8_copy_91 ⟨Nat.zero_le _, Nat.zero_le _⟩ rfl (fun H locs hP hD hS => ?_)
                  refine lv_if_ne (tgt := 103) X.1 X.2.1 dX8_copy_94 (by decide) (fun c283 => ?_) (fun c283 => ?_)
                  · have hf := ite_f hf c283
                    refine lv_aload X.1 X.2.1 dX8_copy_103 (lv_at hl 1 rfl) ?_
                    refine z_get X hK hP hiX5 13 rfl rfl 3 (by decide) (bw_in W31_12) rfl dX8_copy_105 ?_
                    refine lv_iload_n X.1 X.2.1 dX8_copy_108 rfl (lv_at hl 4 rfl) ?_
                    refine lv_aload X.1 X.2.1 dX8_copy_109 (lv_at hl 0 rfl) ?_
                    refine z_get X hK hP hiX5 9 rfl rfl 3 (by decide) (bw_in W31_12) rfl dX8_copy_111 ?_
                    refine lv_iload X.1 X.2.1 dX8_copy_114 (lv_at hl 6 rfl) ?_
                    refine lv_iload X.1 X.2.1 dX8_copy_116 (lv_at hl 7 rfl) ?_
                    obtain ⟨⟨⟨⟨ha284, ha285⟩, ha286⟩, ha287, ha288⟩, hf⟩ := asr_e hf
                    obtain ⟨z289, ez289, hf⟩ := stp_e hf
                    refine z_acopy (ws' := wbALL K g z289 y0) X hK hP hD hS (bw_in W41_4) (bw_in W41_5) (bw_in W41_6) (bw_in W41_7) hl.1 14 10 rfl rfl ha284 ha285 ha286 ha287 ha288 (Nat.le_of_ble_eq_true rfl) (Nat.le_of_ble_eq_true rfl) dX8_copy_118 (by rw [ez289]; rfl) (fun H locs hP hD hS => ?_)
                    refine lv_iconst (v := 1) X.1 X.2.1 dX8_copy_121 (by decide) ?_
                    obtain ⟨rfl, rfl⟩ := z_inj2 hf
                    exact z_iret X hr hlk hP hD hS dX8_copy_122
                  · have hf := ite_t hf c283
                    refine lv_aload_n X.1 X.2.1 dX8_copy_97 rfl (lv_at hl 2 rfl) ?_
                    refine lv_iconst (v := 2) X.1 X.2.1 dX8_copy_98 (by decide) ?_
                    obtain ⟨r290, z291, hc292, hf⟩ := bd2_e hf
                    refine z_V (n := 1) (As := [.int 2]) (rest := []) (ci := 8) (q0 := 0) X hK hN (kX8_find l D K g z0 y0 _ 2 r290 z291 hc292) (bw_V W31_16 W31_17 W31_18 W1_2 W31_19) rfl ⟨rfl, rfl⟩ (by decide +kernel) rfl ⟨Nat.le_of_ble_eq_true rfl, Nat.le_of_ble_eq_true rfl⟩ hP hD rfl rfl (zj_same hD hS hA) hS hl.1 rfl (Nat.le_of_ble_eq_true rfl) dX8_copy_99 ⟨Nat.zero_le _, Nat.zero_le _⟩ rfl (fun H locs hP hD hS => ?_)
                    obtain ⟨rfl, rfl⟩ := z_inj2 hf
                    exact z_iret X hr hlk hP hD hS dX8_copy_102
              · have hf := ite_f hf c272
                refine lv_aload_n X.1 X.2.1 dX8_copy_68 rfl (lv_at hl 2 rfl) ?_
                refine lv_iconst (v := 4) X.1 X.2.1 dX8_copy_69 (by decide) ?_
                obtain ⟨r293, z294, hc295, hf⟩ := bd2_e hf
                refine z_V (n := 1) (As := [.int 4]) (rest := []) (ci := 8) (q0 := 0) X hK hN (kX8_find l D K g z0 y0 _ 4 r293 z294 hc295) (bw_V W31_16 W31_17 W31_18 W1_2 W31_19) rfl ⟨rfl, rfl⟩ (by decide +kernel) rfl ⟨Nat.le_of_ble_eq_true rfl, Nat.le_of_ble_eq_true rfl⟩ hP hD rfl rfl (zj_same hD hS hA) hS hl.1 rfl (Nat.le_of_ble_eq_true rfl) dX8_copy_70 ⟨Nat.zero_le _, Nat.zero_le _⟩ rfl (fun H locs hP hD hS => ?_)
                obtain ⟨rfl, rfl⟩ := z_inj2 hf
                exact z_iret X hr hlk hP hD hS dX8_copy_73
            · have hf := ite_f hf c271
              refine lv_aload_n X.1 X.2.1 dX8_copy_49 rfl (lv_at hl 2 rfl) ?_
              refine lv_iconst (v := 1) X.1 X.2.1 dX8_copy_50 (by decide) ?_
              obtain ⟨r296, z297, hc298, hf⟩ := bd2_e hf
              refine z_V (n := 1) (As := [.int 1]) (rest := []) (ci := 8) (q0 := 0) X hK hN (kX8_find l D K g z0 y0 _ 1 r296 z297 hc298) (bw_V W31_16 W31_17 W31_18 W1_2 W31_19) rfl ⟨rfl, rfl⟩ (by decide +kernel) rfl ⟨Nat.le_of_ble_eq_true rfl, Nat.le_of_ble_eq_true rfl⟩ hP hD rfl rfl (zj_same hD hS hA) hS hl.1 rfl (Nat.le_of_ble_eq_true rfl) dX8_copy_51 ⟨Nat.zero_le _, Nat.zero_le _⟩ rfl (fun H locs hP hD hS => ?_)
              obtain ⟨rfl, rfl⟩ := z_inj2 hf
              exact z_iret X hr hlk hP hD hS dX8_copy_54
        have hf := ite_f hf c266
        by_cases c299 : x3 = 1
        · have hf := ite_t hf c299
          refine z_aald X hK hP 2 3 rfl rfl (by rw [c299]; exact vp_lit _ _ (by decide)) (by rw [c299] <;> rfl) dX8_copy_30 ?_
          refine lv_astore (lv' := [(7, .ref (g 5 0)), (6, .ref (g 6 0)), (0, .ref (g 0 0)), (1, .int x1), (2, .int x2), (3, .int x3), (4, .int x4), (5, .int x5)]) X.1 X.2.1 dX8_copy_31 hl (by decide) rfl (fun ls hl => ?_)
          refine lv_aload X.1 X.2.1 dX8_copy_33 (lv_at hl 1 rfl) ?_
          refine z_get X hK hP hiX5 13 rfl rfl 0 (by decide) (bw_in W31_10) rfl dX8_copy_35 ?_
          refine lv_if_ne (tgt := 49) X.1 X.2.1 dX8_copy_38 (by decide) (fun c300 => ?_) (fun c300 => ?_)
          · have hf := ite_f hf c300
            refine lv_aload_n X.1 X.2.1 dX8_copy_49 rfl (lv_at hl 2 rfl) ?_
            refine lv_iconst (v := 1) X.1 X.2.1 dX8_copy_50 (by decide) ?_
            obtain ⟨r301, z302, hc303, hf⟩ := bd2_e hf
            refine z_V (n := 1) (As := [.int 1]) (rest := []) (ci := 8) (q0 := 0) X hK hN (kX8_find l D K g z0 y0 _ 1 r301 z302 hc303) (bw_V W31_16 W31_17 W31_18 W1_2 W31_19) rfl ⟨rfl, rfl⟩ (by decide +kernel) rfl ⟨Nat.le_of_ble_eq_true rfl, Nat.le_of_ble_eq_true rfl⟩ hP hD rfl rfl (zj_same hD hS hA) hS hl.1 rfl (Nat.le_of_ble_eq_true rfl) dX8_copy_51 ⟨Nat.zero_le _, Nat.zero_le _⟩ rfl (fun H locs hP hD hS => ?_)
            obtain ⟨rfl, rfl⟩ := z_inj2 hf
            exact z_iret X hr hlk hP hD hS dX8_copy_54
          · have hf := ite_t hf c300
            refine lv_aload X.1 X.2.1 dX8_copy_41 (lv_at hl 0 rfl) ?_
            refine z_get X hK hP hiX5 11 rfl rfl 0 (by decide) (bw_in W31_10) rfl dX8_copy_43 ?_
            refine lv_if_eq (tgt := 55) X.1 X.2.1 dX8_copy_46 (by decide) (fun c304 => ?_) (fun c304 => ?_)
            · have hf := ite_t hf c304
              refine lv_aload X.1 X.2.1 dX8_copy_55 (lv_at hl 1 rfl) ?_
              refine z_get X hK hP hiX5 13 rfl rfl 1 (by decide) (bw_in W41_3) rfl dX8_copy_57 ?_
              refine lv_aload X.1 X.2.1 dX8_copy_60 (lv_at hl 0 rfl) ?_
              refine z_get X hK hP hiX5 11 rfl rfl 1 (by decide) (bw_in W41_3) rfl dX8_copy_62 ?_
              refine lv_icmp_eq (tgt := 74) X.1 X.2.1 dX8_copy_65 (by decide) (fun c305 => ?_) (fun c305 => ?_)
              · have hf := ite_t hf c305
                refine lv_aload X.1 X.2.1 dX8_copy_74 (lv_at hl 1 rfl) ?_
                refine lv_iload_n X.1 X.2.1 dX8_copy_76 rfl (lv_at hl 4 rfl) ?_
                refine lv_iload X.1 X.2.1 dX8_copy_77 (lv_at hl 7 rfl) ?_
                obtain ⟨r306, hc307, hf⟩ := bd1_e hf
                have hp308 : List.Perm (wbALL K g z0 y0) ((wbX5 K (g 6) (z0 6)) ++ ([0, 1, 2, 3, 4, 5, 7, 8, 9, 10, 11, 12, 13, 14].map (bfALL K g z0 y0)).flatten) := wbALL_perm [6, 0, 1, 2, 3, 4, 5, 7, 8, 9, 10, 11, 12, 13, 14] (by decide)
                refine z_V (n := 2) (As := [.int x2, .int x5]) (rest := []) (ci := 5) (q0 := 0) X hK hN (kX5_holds l D K (g 6) (z0 6) _ x2 x5 r306 hc307) (bw_V W41_8 W41_9 W41_10 W2_22 W41_11) rfl ⟨rfl, rfl⟩ (by decide +kernel) rfl ⟨Nat.le_of_ble_eq_true rfl, Nat.le_of_ble_eq_true rfl⟩ (hP.perm hp308).lef (hD.perm hp308).lef rfl rfl (zj_perm (ws' := wbALL K g z0 y0) hP hD hS hA hp308 (by refine List.Perm.symm ?_; exact wbALL_perm [6, 0, 1, 2, 3, 4, 5, 7, 8, 9, 10, 11, 12, 13, 14] (by decide))) hS hl.1 rfl (Nat.le_of_ble_eq_true rfl) dX8_copy_79 ⟨Nat.zero_le _, Nat.zero_le _⟩ rfl (fun H locs hP hD hS => ?_)
                refine lv_if_eq (tgt := 97) X.1 X.2.1 dX8_copy_82 (by decide) (fun c309 => ?_) (fun c309 => ?_)
                · have hf := ite_t hf c309
                  refine lv_aload_n X.1 X.2.1 dX8_copy_97 rfl (lv_at hl 2 rfl) ?_
                  refine lv_iconst (v := 2) X.1 X.2.1 dX8_copy_98 (by decide) ?_
                  obtain ⟨r310, z311, hc312, hf⟩ := bd2_e hf
                  refine z_V (n := 1) (As := [.int 2]) (rest := []) (ci := 8) (q0 := 0) X hK hN (kX8_find l D K g z0 y0 _ 2 r310 z311 hc312) (bw_V W31_16 W31_17 W31_18 W1_2 W31_19) rfl ⟨rfl, rfl⟩ (by decide +kernel) rfl ⟨Nat.le_of_ble_eq_true rfl, Nat.le_of_ble_eq_true rfl⟩ hP hD rfl rfl (zj_same hD hS hA) hS hl.1 rfl (Nat.le_of_ble_eq_true rfl) dX8_copy_99 ⟨Nat.zero_le _, Nat.zero_le _⟩ rfl (fun H locs hP hD hS => ?_)
                  obtain ⟨rfl, rfl⟩ := z_inj2 hf
                  exact z_iret X hr hlk hP hD hS dX8_copy_102
                · have hf := ite_f hf c309
                  refine lv_aload X.1 X.2.1 dX8_copy_85 (lv_at hl 0 rfl) ?_
                  refine lv_iload X.1 X.2.1 dX8_copy_87 (lv_at hl 6 rfl) ?_
                  refine lv_iload X.1 X.2.1 dX8_copy_89 (lv_at hl 7 rfl) ?_
                  obtain ⟨r313, hc314, hf⟩ := bd1_e hf
                  have hp315 : List.Perm (wbALL K g z0 y0) ((wbX5 K (g 5) (z0 5)) ++ ([0, 1, 2, 3, 4, 6, 7, 8, 9, 10, 11, 12, 13, 14].map (bfALL K g z0 y0)).flatten) := wbALL_perm [5, 0, 1, 2, 3, 4, 6, 7, 8, 9, 10, 11, 12, 13, 14] (by decide)
                  refine z_V (n := 2) (As := [.int x4, .int x5]) (rest := []) (ci := 5) (q0 := 0) X hK hN (kX5_holds l D K (g 5) (z0 5) _ x4 x5 r313 hc314) (bw_V W41_8 W41_9 W41_10 W2_22 W41_11) rfl ⟨rfl, rfl⟩ (by decide +kernel) rfl ⟨Nat.le_of_ble_eq_true rfl, Nat.le_of_ble_eq_true rfl⟩ (hP.perm hp315).lef (hD.perm hp315).lef rfl rfl (zj_perm (ws' := wbALL K g z0 y0) hP hD hS hA hp315 (by refine List.Perm.symm ?_; exact wbALL_perm [5, 0, 1, 2, 3, 4, 6, 7, 8, 9, 10, 11, 12, 13, 14] (by decide))) hS hl.1 rfl (Nat.le_of_ble_eq_true rfl) dX8_copy_91 ⟨Nat.zero_le _, Nat.zero_le _⟩ rfl (fun H locs hP hD hS => ?_)
                  refine lv_if_ne (tgt := 103) X.1 X.2.1 dX8_copy_94 (by decide) (fun c316 => ?_) (fun c316 => ?_)
                  · have hf := ite_f hf c316
                    refine lv_aload X.1 X.2.1 dX8_copy_103 (lv_at hl 1 rfl) ?_
                    refine z_get X hK hP hiX5 13 rfl rfl 3 (by decide) (bw_in W31_12) rfl dX8_copy_105 ?_
                    refine lv_iload_n X.1 X.2.1 dX8_copy_108 rfl (lv_at hl 4 rfl) ?_
                    refine lv_aload X.1 X.2.1 dX8_copy_109 (lv_at hl 0 rfl) ?_
                    refine z_get X hK hP hiX5 11 rfl rfl 3 (by decide) (bw_in W31_12) rfl dX8_copy_111 ?_
                    refine lv_iload X.1 X.2.1 dX8_copy_114 (lv_at hl 6 rfl) ?_
                    refine lv_iload X.1 X.2.1 dX8_copy_116 (lv_at hl 7 rfl) ?_
                    obtain ⟨⟨⟨⟨ha317, ha318⟩, ha319⟩, ha320, ha321⟩, hf⟩ := asr_e hf
                    obtain ⟨z322, ez322, hf⟩ := stp_e hf
                    refine z_acopy (ws' := wbALL K g z322 y0) X hK hP hD hS (bw_in W41_4) (bw_in W41_5) (bw_in W41_6) (bw_in W41_7) hl.1 14 12 rfl rfl ha317 ha318 ha319 ha320 ha321 (Nat.le_of_ble_eq_true rfl) (Nat.le_of_ble_eq_true rfl) dX8_copy_118 (by rw [ez322]; rfl) (fun H locs hP hD hS => ?_)
                    refine lv_iconst (v := 1) X.1 X.2.1 dX8_copy_121 (by decide) ?_
                    obtain ⟨rfl, rfl⟩ := z_inj2 hf
                    exact z_iret X hr hlk hP hD hS dX8_copy_122
                  · have hf := ite_t hf c316
                    refine lv_aload_n X.1 X.2.1 dX8_copy_97 rfl (lv_at hl 2 rfl) ?_
                    refine lv_iconst (v := 2) X.1 X.2.1 dX8_copy_98 (by decide) ?_
                    obtain ⟨r323, z324, hc325, hf⟩ := bd2_e hf
                    refine z_V (n := 1) (As := [.int 2]) (rest := []) (ci := 8) (q0 := 0) X hK hN (kX8_find l D K g z0 y0 _ 2 r323 z324 hc325) (bw_V W31_16 W31_17 W31_18 W1_2 W31_19) rfl ⟨rfl, rfl⟩ (by decide +kernel) rfl ⟨Nat.le_of_ble_eq_true rfl, Nat.le_of_ble_eq_true rfl⟩ hP hD rfl rfl (zj_same hD hS hA) hS hl.1 rfl (Nat.le_of_ble_eq_true rfl) dX8_copy_99 ⟨Nat.zero_le _, Nat.zero_le _⟩ rfl (fun H locs hP hD hS => ?_)
                    obtain ⟨rfl, rfl⟩ := z_inj2 hf
                    exact z_iret X hr hlk hP hD hS dX8_copy_102
              · have hf := ite_f hf c305
                refine lv_aload_n X.1 X.2.1 dX8_copy_68 rfl (lv_at hl 2 rfl) ?_
                refine lv_iconst (v := 4) X.1 X.2.1 dX8_copy_69 (by decide) ?_
                obtain ⟨r326, z327, hc328, hf⟩ := bd2_e hf
                refine z_V (n := 1) (As := [.int 4]) (rest := []) (ci := 8) (q0 := 0) X hK hN (kX8_find l D K g z0 y0 _ 4 r326 z327 hc328) (bw_V W31_16 W31_17 W31_18 W1_2 W31_19) rfl ⟨rfl, rfl⟩ (by decide +kernel) rfl ⟨Nat.le_of_ble_eq_true rfl, Nat.le_of_ble_eq_true rfl⟩ hP hD rfl rfl (zj_same hD hS hA) hS hl.1 rfl (Nat.le_of_ble_eq_true rfl) dX8_copy_70 ⟨Nat.zero_le _, Nat.zero_le _⟩ rfl (fun H locs hP hD hS => ?_)
                obtain ⟨rfl, rfl⟩ := z_inj2 hf
                exact z_iret X hr hlk hP hD hS dX8_copy_73
            · have hf := ite_f hf c304
              refine lv_aload_n X.1 X.2.1 dX8_copy_49 rfl (lv_at hl 2 rfl) ?_
              refine lv_iconst (v := 1) X.1 X.2.1 dX8_copy_50 (by decide) ?_
              obtain ⟨r329, z330, hc331, hf⟩ := bd2_e hf
              refine z_V (n := 1) (As := [.int 1]) (rest := []) (ci := 8) (q0 := 0) X hK hN (kX8_find l D K g z0 y0 _ 1 r329 z330 hc331) (bw_V W31_16 W31_17 W31_18 W1_2 W31_19) rfl ⟨rfl, rfl⟩ (by decide +kernel) rfl ⟨Nat.le_of_ble_eq_true rfl, Nat.le_of_ble_eq_true rfl⟩ hP hD rfl rfl (zj_same hD hS hA) hS hl.1 rfl (Nat.le_of_ble_eq_true rfl) dX8_copy_51 ⟨Nat.zero_le _, Nat.zero_le _⟩ rfl (fun H locs hP hD hS => ?_)
              obtain ⟨rfl, rfl⟩ := z_inj2 hf
              exact z_iret X hr hlk hP hD hS dX8_copy_54
        have hf := ite_f hf c299
        by_cases c332 : x3 = 2
        · have hf := ite_t hf c332
          refine z_aald X hK hP 2 3 rfl rfl (by rw [c332]; exact vp_lit _ _ (by decide)) (by rw [c332] <;> rfl) dX8_copy_30 ?_
          refine lv_astore (lv' := [(7, .ref (g 6 0)), (6, .ref (g 6 0)), (0, .ref (g 0 0)), (1, .int x1), (2, .int x2), (3, .int x3), (4, .int x4), (5, .int x5)]) X.1 X.2.1 dX8_copy_31 hl (by decide) rfl (fun ls hl => ?_)
          refine lv_aload X.1 X.2.1 dX8_copy_33 (lv_at hl 1 rfl) ?_
          refine z_get X hK hP hiX5 13 rfl rfl 0 (by decide) (bw_in W31_10) rfl dX8_copy_35 ?_
          refine lv_if_ne (tgt := 49) X.1 X.2.1 dX8_copy_38 (by decide) (fun c333 => ?_) (fun c333 => ?_)
          · have hf := ite_f hf c333
            refine lv_aload_n X.1 X.2.1 dX8_copy_49 rfl (lv_at hl 2 rfl) ?_
            refine lv_iconst (v := 1) X.1 X.2.1 dX8_copy_50 (by decide) ?_
            obtain ⟨r334, z335, hc336, hf⟩ := bd2_e hf
            refine z_V (n := 1) (As := [.int 1]) (rest := []) (ci := 8) (q0 := 0) X hK hN (kX8_find l D K g z0 y0 _ 1 r334 z335 hc336) (bw_V W31_16 W31_17 W31_18 W1_2 W31_19) rfl ⟨rfl, rfl⟩ (by decide +kernel) rfl ⟨Nat.le_of_ble_eq_true rfl, Nat.le_of_ble_eq_true rfl⟩ hP hD rfl rfl (zj_same hD hS hA) hS hl.1 rfl (Nat.le_of_ble_eq_true rfl) dX8_copy_51 ⟨Nat.zero_le _, Nat.zero_le _⟩ rfl (fun H locs hP hD hS => ?_)
            obtain ⟨rfl, rfl⟩ := z_inj2 hf
            exact z_iret X hr hlk hP hD hS dX8_copy_54
          · have hf := ite_t hf c333
            refine lv_aload X.1 X.2.1 dX8_copy_41 (lv_at hl 0 rfl) ?_
            refine z_get X hK hP hiX5 13 rfl rfl 0 (by decide) (bw_in W31_10) rfl dX8_copy_43 ?_
            refine lv_if_eq (tgt := 55) X.1 X.2.1 dX8_copy_46 (by decide) (fun _ => ?_) (fun c => absurd c333 c)
            refine lv_aload X.1 X.2.1 dX8_copy_55 (lv_at hl 1 rfl) ?_
            refine z_get X hK hP hiX5 13 rfl rfl 1 (by decide) (bw_in W41_3) rfl dX8_copy_57 ?_
            refine lv_aload X.1 X.2.1 dX8_copy_60 (lv_at hl 0 rfl) ?_
            refine z_get X hK hP hiX5 13 rfl rfl 1 (by decide) (bw_in W41_3) rfl dX8_copy_62 ?_
            refine lv_icmp_eq (tgt := 74) X.1 X.2.1 dX8_copy_65 (by decide) (fun c337 => ?_) (fun c337 => ?_)
            · have hf := ite_t hf c337
              refine lv_aload X.1 X.2.1 dX8_copy_74 (lv_at hl 1 rfl) ?_
              refine lv_iload_n X.1 X.2.1 dX8_copy_76 rfl (lv_at hl 4 rfl) ?_
              refine lv_iload X.1 X.2.1 dX8_copy_77 (lv_at hl 7 rfl) ?_
              obtain ⟨r338, hc339, hf⟩ := bd1_e hf
              have hp340 : List.Perm (wbALL K g z0 y0) ((wbX5 K (g 6) (z0 6)) ++ ([0, 1, 2, 3, 4, 5, 7, 8, 9, 10, 11, 12, 13, 14].map (bfALL K g z0 y0)).flatten) := wbALL_perm [6, 0, 1, 2, 3, 4, 5, 7, 8, 9, 10, 11, 12, 13, 14] (by decide)
              refine z_V (n := 2) (As := [.int x2, .int x5]) (rest := []) (ci := 5) (q0 := 0) X hK hN (kX5_holds l D K (g 6) (z0 6) _ x2 x5 r338 hc339) (bw_V W41_8 W41_9 W41_10 W2_22 W41_11) rfl ⟨rfl, rfl⟩ (by decide +kernel) rfl ⟨Nat.le_of_ble_eq_true rfl, Nat.le_of_ble_eq_true rfl⟩ (hP.perm hp340).lef (hD.perm hp340).lef rfl rfl (zj_perm (ws' := wbALL K g z0 y0) hP hD hS hA hp340 (by refine List.Perm.symm ?_; exact wbALL_perm [6, 0, 1, 2, 3, 4, 5, 7, 8, 9, 10, 11, 12, 13, 14] (by decide))) hS hl.1 rfl (Nat.le_of_ble_eq_true rfl) dX8_copy_79 ⟨Nat.zero_le _, Nat.zero_le _⟩ rfl (fun H locs hP hD hS => ?_)
              refine lv_if_eq (tgt := 97) X.1 X.2.1 dX8_copy_82 (by decide) (fun c341 => ?_) (fun c341 => ?_)
              · have hf := ite_t hf c341
                refine lv_aload_n X.1 X.2.1 dX8_copy_97 rfl (lv_at hl 2 rfl) ?_
                refine lv_iconst (v := 2) X.1 X.2.1 dX8_copy_98 (by decide) ?_
                obtain ⟨r342, z343, hc344, hf⟩ := bd2_e hf
                refine z_V (n := 1) (As := [.int 2]) (rest := []) (ci := 8) (q0 := 0) X hK hN (kX8_find l D K g z0 y0 _ 2 r342 z343 hc344) (bw_V W31_16 W31_17 W31_18 W1_2 W31_19) rfl ⟨rfl, rfl⟩ (by decide +kernel) rfl ⟨Nat.le_of_ble_eq_true rfl, Nat.le_of_ble_eq_true rfl⟩ hP hD rfl rfl (zj_same hD hS hA) hS hl.1 rfl (Nat.le_of_ble_eq_true rfl) dX8_copy_99 ⟨Nat.zero_le _, Nat.zero_le _⟩ rfl (fun H locs hP hD hS => ?_)
                obtain ⟨rfl, rfl⟩ := z_inj2 hf
                exact z_iret X hr hlk hP hD hS dX8_copy_102
              · have hf := ite_f hf c341
                refine lv_aload X.1 X.2.1 dX8_copy_85 (lv_at hl 0 rfl) ?_
                refine lv_iload X.1 X.2.1 dX8_copy_87 (lv_at hl 6 rfl) ?_
                refine lv_iload X.1 X.2.1 dX8_copy_89 (lv_at hl 7 rfl) ?_
                obtain ⟨r345, hc346, hf⟩ := bd1_e hf
                have hp347 : List.Perm (wbALL K g z0 y0) ((wbX5 K (g 6) (z0 6)) ++ ([0, 1, 2, 3, 4, 5, 7, 8, 9, 10, 11, 12, 13, 14].map (bfALL K g z0 y0)).flatten) := wbALL_perm [6, 0, 1, 2, 3, 4, 5, 7, 8, 9, 10, 11, 12, 13, 14] (by decide)
                refine z_V (n := 2) (As := [.int x4, .int x5]) (rest := []) (ci := 5) (q0 := 0) X hK hN (kX5_holds l D K (g 6) (z0 6) _ x4 x5 r345 hc346) (bw_V W41_8 W41_9 W41_10 W2_22 W41_11) rfl ⟨rfl, rfl⟩ (by decide +kernel) rfl ⟨Nat.le_of_ble_eq_true rfl, Nat.le_of_ble_eq_true rfl⟩ (hP.perm hp347).lef (hD.perm hp347).lef rfl rfl (zj_perm (ws' := wbALL K g z0 y0) hP hD hS hA hp347 (by refine List.Perm.symm ?_; exact wbALL_perm [6, 0, 1, 2, 3, 4, 5, 7, 8, 9, 10, 11, 12, 13, 14] (by decide))) hS hl.1 rfl (Nat.le_of_ble_eq_true rfl) dX8_copy_91 ⟨Nat.zero_le _, Nat.zero_le _⟩ rfl (fun H locs hP hD hS => ?_)
                refine lv_if_ne (tgt := 103) X.1 X.2.1 dX8_copy_94 (by decide) (fun c348 => ?_) (fun c348 => ?_)
                · have hf := ite_f hf c348
                  refine lv_aload X.1 X.2.1 dX8_copy_103 (lv_at hl 1 rfl) ?_
                  refine z_get X hK hP hiX5 13 rfl rfl 3 (by decide) (bw_in W31_12) rfl dX8_copy_105 ?_
                  refine lv_iload_n X.1 X.2.1 dX8_copy_108 rfl (lv_at hl 4 rfl) ?_
                  refine lv_aload X.1 X.2.1 dX8_copy_109 (lv_at hl 0 rfl) ?_
                  refine z_get X hK hP hiX5 13 rfl rfl 3 (by decide) (bw_in W31_12) rfl dX8_copy_111 ?_
                  refine lv_iload X.1 X.2.1 dX8_copy_114 (lv_at hl 6 rfl) ?_
                  refine lv_iload X.1 X.2.1 dX8_copy_116 (lv_at hl 7 rfl) ?_
                  obtain ⟨⟨⟨⟨ha349, ha350⟩, ha351⟩, ha352, ha353⟩, hf⟩ := asr_e hf
                  obtain ⟨z354, ez354, hf⟩ := stp_e hf
                  refine z_acopy (ws' := wbALL K g z354 y0) X hK hP hD hS (bw_in W41_4) (bw_in W41_5) (bw_in W41_6) (bw_in W41_7) hl.1 14 14 rfl rfl ha349 ha350 ha351 ha352 ha353 (Nat.le_of_ble_eq_true rfl) (Nat.le_of_ble_eq_true rfl) dX8_copy_118 (by rw [ez354]; rfl) (fun H locs hP hD hS => ?_)
                  refine lv_iconst (v := 1) X.1 X.2.1 dX8_copy_121 (by decide) ?_
                  obtain ⟨rfl, rfl⟩ := z_inj2 hf
                  exact z_iret X hr hlk hP hD hS dX8_copy_122
                · have hf := ite_t hf c348
                  refine lv_aload_n X.1 X.2.1 dX8_copy_97 rfl (lv_at hl 2 rfl) ?_
                  refine lv_iconst (v := 2) X.1 X.2.1 dX8_copy_98 (by decide) ?_
                  obtain ⟨r355, z356, hc357, hf⟩ := bd2_e hf
                  refine z_V (n := 1) (As := [.int 2]) (rest := []) (ci := 8) (q0 := 0) X hK hN (kX8_find l D K g z0 y0 _ 2 r355 z356 hc357) (bw_V W31_16 W31_17 W31_18 W1_2 W31_19) rfl ⟨rfl, rfl⟩ (by decide +kernel) rfl ⟨Nat.le_of_ble_eq_true rfl, Nat.le_of_ble_eq_true rfl⟩ hP hD rfl rfl (zj_same hD hS hA) hS hl.1 rfl (Nat.le_of_ble_eq_true rfl) dX8_copy_99 ⟨Nat.zero_le _, Nat.zero_le _⟩ rfl (fun H locs hP hD hS => ?_)
                  obtain ⟨rfl, rfl⟩ := z_inj2 hf
                  exact z_iret X hr hlk hP hD hS dX8_copy_102
            · have hf := ite_f hf c337
              refine lv_aload_n X.1 X.2.1 dX8_copy_68 rfl (lv_at hl 2 rfl) ?_
              refine lv_iconst (v := 4) X.1 X.2.1 dX8_copy_69 (by decide) ?_
              obtain ⟨r358, z359, hc360, hf⟩ := bd2_e hf
              refine z_V (n := 1) (As := [.int 4]) (rest := []) (ci := 8) (q0 := 0) X hK hN (kX8_find l D K g z0 y0 _ 4 r358 z359 hc360) (bw_V W31_16 W31_17 W31_18 W1_2 W31_19) rfl ⟨rfl, rfl⟩ (by decide +kernel) rfl ⟨Nat.le_of_ble_eq_true rfl, Nat.le_of_ble_eq_true rfl⟩ hP hD rfl rfl (zj_same hD hS hA) hS hl.1 rfl (Nat.le_of_ble_eq_true rfl) dX8_copy_70 ⟨Nat.zero_le _, Nat.zero_le _⟩ rfl (fun H locs hP hD hS => ?_)
              obtain ⟨rfl, rfl⟩ := z_inj2 hf
              exact z_iret X hr hlk hP hD hS dX8_copy_73
        have hf := ite_f hf c332
        by_cases c361 : x3 = 3
        · have hf := ite_t hf c361
          refine z_aald X hK hP 2 3 rfl rfl (by rw [c361]; exact vp_lit _ _ (by decide)) (by rw [c361] <;> rfl) dX8_copy_30 ?_
          refine lv_astore (lv' := [(7, .ref (g 7 0)), (6, .ref (g 6 0)), (0, .ref (g 0 0)), (1, .int x1), (2, .int x2), (3, .int x3), (4, .int x4), (5, .int x5)]) X.1 X.2.1 dX8_copy_31 hl (by decide) rfl (fun ls hl => ?_)
          refine lv_aload X.1 X.2.1 dX8_copy_33 (lv_at hl 1 rfl) ?_
          refine z_get X hK hP hiX5 13 rfl rfl 0 (by decide) (bw_in W31_10) rfl dX8_copy_35 ?_
          refine lv_if_ne (tgt := 49) X.1 X.2.1 dX8_copy_38 (by decide) (fun c362 => ?_) (fun c362 => ?_)
          · have hf := ite_f hf c362
            refine lv_aload_n X.1 X.2.1 dX8_copy_49 rfl (lv_at hl 2 rfl) ?_
            refine lv_iconst (v := 1) X.1 X.2.1 dX8_copy_50 (by decide) ?_
            obtain ⟨r363, z364, hc365, hf⟩ := bd2_e hf
            refine z_V (n := 1) (As := [.int 1]) (rest := []) (ci := 8) (q0 := 0) X hK hN (kX8_find l D K g z0 y0 _ 1 r363 z364 hc365) (bw_V W31_16 W31_17 W31_18 W1_2 W31_19) rfl ⟨rfl, rfl⟩ (by decide +kernel) rfl ⟨Nat.le_of_ble_eq_true rfl, Nat.le_of_ble_eq_true rfl⟩ hP hD rfl rfl (zj_same hD hS hA) hS hl.1 rfl (Nat.le_of_ble_eq_true rfl) dX8_copy_51 ⟨Nat.zero_le _, Nat.zero_le _⟩ rfl (fun H locs hP hD hS => ?_)
            obtain ⟨rfl, rfl⟩ := z_inj2 hf
            exact z_iret X hr hlk hP hD hS dX8_copy_54
          · have hf := ite_t hf c362
            refine lv_aload X.1 X.2.1 dX8_copy_41 (lv_at hl 0 rfl) ?_
            refine z_get X hK hP hiX5 15 rfl rfl 0 (by decide) (bw_in W31_10) rfl dX8_copy_43 ?_
            refine lv_if_eq (tgt := 55) X.1 X.2.1 dX8_copy_46 (by decide) (fun c366 => ?_) (fun c366 => ?_)
            · have hf := ite_t hf c366
              refine lv_aload X.1 X.2.1 dX8_copy_55 (lv_at hl 1 rfl) ?_
              refine z_get X hK hP hiX5 13 rfl rfl 1 (by decide) (bw_in W41_3) rfl dX8_copy_57 ?_
              refine lv_aload X.1 X.2.1 dX8_copy_60 (lv_at hl 0 rfl) ?_
              refine z_get X hK hP hiX5 15 rfl rfl 1 (by decide) (bw_in W41_3) rfl dX8_copy_62 ?_
              refine lv_icmp_eq (tgt := 74) X.1 X.2.1 dX8_copy_65 (by decide) (fun c367 => ?_) (fun c367 => ?_)
              · have hf := ite_t hf c367
                refine lv_aload X.1 X.2.1 dX8_copy_74 (lv_at hl 1 rfl) ?_
                refine lv_iload_n X.1 X.2.1 dX8_copy_76 rfl (lv_at hl 4 rfl) ?_
                refine lv_iload X.1 X.2.1 dX8_copy_77 (lv_at hl 7 rfl) ?_
                obtain ⟨r368, hc369, hf⟩ := bd1_e hf
                have hp370 : List.Perm (wbALL K g z0 y0) ((wbX5 K (g 6) (z0 6)) ++ ([0, 1, 2, 3, 4, 5, 7, 8, 9, 10, 11, 12, 13, 14].map (bfALL K g z0 y0)).flatten) := wbALL_perm [6, 0, 1, 2, 3, 4, 5, 7, 8, 9, 10, 11, 12, 13, 14] (by decide)
                refine z_V (n := 2) (As := [.int x2, .int x5]) (rest := []) (ci := 5) (q0 := 0) X hK hN (kX5_holds l D K (g 6) (z0 6) _ x2 x5 r368 hc369) (bw_V W41_8 W41_9 W41_10 W2_22 W41_11) rfl ⟨rfl, rfl⟩ (by decide +kernel) rfl ⟨Nat.le_of_ble_eq_true rfl, Nat.le_of_ble_eq_true rfl⟩ (hP.perm hp370).lef (hD.perm hp370).lef rfl rfl (zj_perm (ws' := wbALL K g z0 y0) hP hD hS hA hp370 (by refine List.Perm.symm ?_; exact wbALL_perm [6, 0, 1, 2, 3, 4, 5, 7, 8, 9, 10, 11, 12, 13, 14] (by decide))) hS hl.1 rfl (Nat.le_of_ble_eq_true rfl) dX8_copy_79 ⟨Nat.zero_le _, Nat.zero_le _⟩ rfl (fun H locs hP hD hS => ?_)
                refine lv_if_eq (tgt := 97) X.1 X.2.1 dX8_copy_82 (by decide) (fun c371 => ?_) (fun c371 => ?_)
                · have hf := ite_t hf c371
                  refine lv_aload_n X.1 X.2.1 dX8_copy_97 rfl (lv_at hl 2 rfl) ?_
                  refine lv_iconst (v := 2) X.1 X.2.1 dX8_copy_98 (by decide) ?_
                  obtain ⟨r372, z373, hc374, hf⟩ := bd2_e hf
                  refine z_V (n := 1) (As := [.int 2]) (rest := []) (ci := 8) (q0 := 0) X hK hN (kX8_find l D K g z0 y0 _ 2 r372 z373 hc374) (bw_V W31_16 W31_17 W31_18 W1_2 W31_19) rfl ⟨rfl, rfl⟩ (by decide +kernel) rfl ⟨Nat.le_of_ble_eq_true rfl, Nat.le_of_ble_eq_true rfl⟩ hP hD rfl rfl (zj_same hD hS hA) hS hl.1 rfl (Nat.le_of_ble_eq_true rfl) dX8_copy_99 ⟨Nat.zero_le _, Nat.zero_le _⟩ rfl (fun H locs hP hD hS => ?_)
                  obtain ⟨rfl, rfl⟩ := z_inj2 hf
                  exact z_iret X hr hlk hP hD hS dX8_copy_102
                · have hf := ite_f hf c371
                  refine lv_aload X.1 X.2.1 dX8_copy_85 (lv_at hl 0 rfl) ?_
                  refine lv_iload X.1 X.2.1 dX8_copy_87 (lv_at hl 6 rfl) ?_
                  refine lv_iload X.1 X.2.1 dX8_copy_89 (lv_at hl 7 rfl) ?_
                  obtain ⟨r375, hc376, hf⟩ := bd1_e hf
                  have hp377 : List.Perm (wbALL K g z0 y0) ((wbX5 K (g 7) (z0 7)) ++ ([0, 1, 2, 3, 4, 5, 6, 8, 9, 10, 11, 12, 13, 14].map (bfALL K g z0 y0)).flatten) := wbALL_perm [7, 0, 1, 2, 3, 4, 5, 6, 8, 9, 10, 11, 12, 13, 14] (by decide)
                  refine z_V (n := 2) (As := [.int x4, .int x5]) (rest := []) (ci := 5) (q0 := 0) X hK hN (kX5_holds l D K (g 7) (z0 7) _ x4 x5 r375 hc376) (bw_V W41_8 W41_9 W41_10 W2_22 W41_11) rfl ⟨rfl, rfl⟩ (by decide +kernel) rfl ⟨Nat.le_of_ble_eq_true rfl, Nat.le_of_ble_eq_true rfl⟩ (hP.perm hp377).lef (hD.perm hp377).lef rfl rfl (zj_perm (ws' := wbALL K g z0 y0) hP hD hS hA hp377 (by refine List.Perm.symm ?_; exact wbALL_perm [7, 0, 1, 2, 3, 4, 5, 6, 8, 9, 10, 11, 12, 13, 14] (by decide))) hS hl.1 rfl (Nat.le_of_ble_eq_true rfl) dX8_copy_91 ⟨Nat.zero_le _, Nat.zero_le _⟩ rfl (fun H locs hP hD hS => ?_)
                  refine lv_if_ne (tgt := 103) X.1 X.2.1 dX8_copy_94 (by decide) (fun c378 => ?_) (fun c378 => ?_)
                  · have hf := ite_f hf c378
                    refine lv_aload X.1 X.2.1 dX8_copy_103 (lv_at hl 1 rfl) ?_
                    refine z_get X hK hP hiX5 13 rfl rfl 3 (by decide) (bw_in W31_12) rfl dX8_copy_105 ?_
                    refine lv_iload_n X.1 X.2.1 dX8_copy_108 rfl (lv_at hl 4 rfl) ?_
                    refine lv_aload X.1 X.2.1 dX8_copy_109 (lv_at hl 0 rfl) ?_
                    refine z_get X hK hP hiX5 15 rfl rfl 3 (by decide) (bw_in W31_12) rfl dX8_copy_111 ?_
                    refine lv_iload X.1 X.2.1 dX8_copy_114 (lv_at hl 6 rfl) ?_
                    refine lv_iload X.1 X.2.1 dX8_copy_116 (lv_at hl 7 rfl) ?_
                    obtain ⟨⟨⟨⟨ha379, ha380⟩, ha381⟩, ha382, ha383⟩, hf⟩ := asr_e hf
                    obtain ⟨z384, ez384, hf⟩ := stp_e hf
                    refine z_acopy (ws' := wbALL K g z384 y0) X hK hP hD hS (bw_in W41_4) (bw_in W41_5) (bw_in W41_6) (bw_in W41_7) hl.1 14 16 rfl rfl ha379 ha380 ha381 ha382 ha383 (Nat.le_of_ble_eq_true rfl) (Nat.le_of_ble_eq_true rfl) dX8_copy_118 (by rw [ez384]; rfl) (fun H locs hP hD hS => ?_)
                    refine lv_iconst (v := 1) X.1 X.2.1 dX8_copy_121 (by decide) ?_
                    obtain ⟨rfl, rfl⟩ := z_inj2 hf
                    exact z_iret X hr hlk hP hD hS dX8_copy_122
                  · have hf := ite_t hf c378
                    refine lv_aload_n X.1 X.2.1 dX8_copy_97 rfl (lv_at hl 2 rfl) ?_
                    refine lv_iconst (v := 2) X.1 X.2.1 dX8_copy_98 (by decide) ?_
                    obtain ⟨r385, z386, hc387, hf⟩ := bd2_e hf
                    refine z_V (n := 1) (As := [.int 2]) (rest := []) (ci := 8) (q0 := 0) X hK hN (kX8_find l D K g z0 y0 _ 2 r385 z386 hc387) (bw_V W31_16 W31_17 W31_18 W1_2 W31_19) rfl ⟨rfl, rfl⟩ (by decide +kernel) rfl ⟨Nat.le_of_ble_eq_true rfl, Nat.le_of_ble_eq_true rfl⟩ hP hD rfl rfl (zj_same hD hS hA) hS hl.1 rfl (Nat.le_of_ble_eq_true rfl) dX8_copy_99 ⟨Nat.zero_le _, Nat.zero_le _⟩ rfl (fun H locs hP hD hS => ?_)
                    obtain ⟨rfl, rfl⟩ := z_inj2 hf
                    exact z_iret X hr hlk hP hD hS dX8_copy_102
              · have hf := ite_f hf c367
                refine lv_aload_n X.1 X.2.1 dX8_copy_68 rfl (lv_at hl 2 rfl) ?_
                refine lv_iconst (v := 4) X.1 X.2.1 dX8_copy_69 (by decide) ?_
                obtain ⟨r388, z389, hc390, hf⟩ := bd2_e hf
                refine z_V (n := 1) (As := [.int 4]) (rest := []) (ci := 8) (q0 := 0) X hK hN (kX8_find l D K g z0 y0 _ 4 r388 z389 hc390) (bw_V W31_16 W31_17 W31_18 W1_2 W31_19) rfl ⟨rfl, rfl⟩ (by decide +kernel) rfl ⟨Nat.le_of_ble_eq_true rfl, Nat.le_of_ble_eq_true rfl⟩ hP hD rfl rfl (zj_same hD hS hA) hS hl.1 rfl (Nat.le_of_ble_eq_true rfl) dX8_copy_70 ⟨Nat.zero_le _, Nat.zero_le _⟩ rfl (fun H locs hP hD hS => ?_)
                obtain ⟨rfl, rfl⟩ := z_inj2 hf
                exact z_iret X hr hlk hP hD hS dX8_copy_73
            · have hf := ite_f hf c366
              refine lv_aload_n X.1 X.2.1 dX8_copy_49 rfl (lv_at hl 2 rfl) ?_
              refine lv_iconst (v := 1) X.1 X.2.1 dX8_copy_50 (by decide) ?_
              obtain ⟨r391, z392, hc393, hf⟩ := bd2_e hf
              refine z_V (n := 1) (As := [.int 1]) (rest := []) (ci := 8) (q0 := 0) X hK hN (kX8_find l D K g z0 y0 _ 1 r391 z392 hc393) (bw_V W31_16 W31_17 W31_18 W1_2 W31_19) rfl ⟨rfl, rfl⟩ (by decide +kernel) rfl ⟨Nat.le_of_ble_eq_true rfl, Nat.le_of_ble_eq_true rfl⟩ hP hD rfl rfl (zj_same hD hS hA) hS hl.1 rfl (Nat.le_of_ble_eq_true rfl) dX8_copy_51 ⟨Nat.zero_le _, Nat.zero_le _⟩ rfl (fun H locs hP hD hS => ?_)
              obtain ⟨rfl, rfl⟩ := z_inj2 hf
              exact z_iret X hr hlk hP hD hS dX8_copy_54
        have hf := ite_f hf c361
        cases hf
      have hf := ite_f hf c265
      by_cases c394 : x1 = 3
      · have hf := ite_t hf c394
        refine z_aald X hK hP 2 3 rfl rfl (by rw [c394]; exact vp_lit _ _ (by decide)) (by rw [c394] <;> rfl) dX8_copy_22 ?_
        refine lv_astore (lv' := [(6, .ref (g 7 0)), (0, .ref (g 0 0)), (1, .int x1), (2, .int x2), (3, .int x3), (4, .int x4), (5, .int x5)]) X.1 X.2.1 dX8_copy_23 hl (by decide) rfl (fun ls hl => ?_)
        refine lv_aload_n X.1 X.2.1 dX8_copy_25 rfl (lv_at hl 1 rfl) ?_
        refine z_get X hK hP hiX8 0 rfl rfl 1 (by decide) (bw_in W1_15) rfl dX8_copy_26 ?_
        refine lv_iload_n X.1 X.2.1 dX8_copy_29 rfl (lv_at hl 4 rfl) ?_
        by_cases c395 : x3 = 0
        · have hf := ite_t hf c395
          refine z_aald X hK hP 2 3 rfl rfl (by rw [c395]; exact vp_lit _ _ (by decide)) (by rw [c395] <;> rfl) dX8_copy_30 ?_
          refine lv_astore (lv' := [(7, .ref (g 4 0)), (6, .ref (g 7 0)), (0, .ref (g 0 0)), (1, .int x1), (2, .int x2), (3, .int x3), (4, .int x4), (5, .int x5)]) X.1 X.2.1 dX8_copy_31 hl (by decide) rfl (fun ls hl => ?_)
          refine lv_aload X.1 X.2.1 dX8_copy_33 (lv_at hl 1 rfl) ?_
          refine z_get X hK hP hiX5 15 rfl rfl 0 (by decide) (bw_in W31_10) rfl dX8_copy_35 ?_
          refine lv_if_ne (tgt := 49) X.1 X.2.1 dX8_copy_38 (by decide) (fun c396 => ?_) (fun c396 => ?_)
          · have hf := ite_f hf c396
            refine lv_aload_n X.1 X.2.1 dX8_copy_49 rfl (lv_at hl 2 rfl) ?_
            refine lv_iconst (v := 1) X.1 X.2.1 dX8_copy_50 (by decide) ?_
            obtain ⟨r397, z398, hc399, hf⟩ := bd2_e hf
            refine z_V (n := 1) (As := [.int 1]) (rest := []) (ci := 8) (q0 := 0) X hK hN (kX8_find l D K g z0 y0 _ 1 r397 z398 hc399) (bw_V W31_16 W31_17 W31_18 W1_2 W31_19) rfl ⟨rfl, rfl⟩ (by decide +kernel) rfl ⟨Nat.le_of_ble_eq_true rfl, Nat.le_of_ble_eq_true rfl⟩ hP hD rfl rfl (zj_same hD hS hA) hS hl.1 rfl (Nat.le_of_ble_eq_true rfl) dX8_copy_51 ⟨Nat.zero_le _, Nat.zero_le _⟩ rfl (fun H locs hP hD hS => ?_)
            obtain ⟨rfl, rfl⟩ := z_inj2 hf
            exact z_iret X hr hlk hP hD hS dX8_copy_54
          · have hf := ite_t hf c396
            refine lv_aload X.1 X.2.1 dX8_copy_41 (lv_at hl 0 rfl) ?_
            refine z_get X hK hP hiX5 9 rfl rfl 0 (by decide) (bw_in W31_10) rfl dX8_copy_43 ?_
            refine lv_if_eq (tgt := 55) X.1 X.2.1 dX8_copy_46 (by decide) (fun c400 => ?_) (fun c400 => ?_)
            · have hf := ite_t hf c400
              refine lv_aload X.1 X.2.1 dX8_copy_55 (lv_at hl 1 rfl) ?_
              refine z_get X hK hP hiX5 15 rfl rfl 1 (by decide) (bw_in W41_3) rfl dX8_copy_57 ?_
              refine lv_aload X.1 X.2.1 dX8_copy_60 (lv_at hl 0 rfl) ?_
              refine z_get X hK hP hiX5 9 rfl rfl 1 (by decide) (bw_in W41_3) rfl dX8_copy_62 ?_
              refine lv_icmp_eq (tgt := 74) X.1 X.2.1 dX8_copy_65 (by decide) (fun c401 => ?_) (fun c401 => ?_)
              · have hf := ite_t hf c401
                refine lv_aload X.1 X.2.1 dX8_copy_74 (lv_at hl 1 rfl) ?_
                refine lv_iload_n X.1 X.2.1 dX8_copy_76 rfl (lv_at hl 4 rfl) ?_
                refine lv_iload X.1 X.2.1 dX8_copy_77 (lv_at hl 7 rfl) ?_
                obtain ⟨r402, hc403, hf⟩ := bd1_e hf
                have hp404 : List.Perm (wbALL K g z0 y0) ((wbX5 K (g 7) (z0 7)) ++ ([0, 1, 2, 3, 4, 5, 6, 8, 9, 10, 11, 12, 13, 14].map (bfALL K g z0 y0)).flatten) := wbALL_perm [7, 0, 1, 2, 3, 4, 5, 6, 8, 9, 10, 11, 12, 13, 14] (by decide)
                refine z_V (n := 2) (As := [.int x2, .int x5]) (rest := []) (ci := 5) (q0 := 0) X hK hN (kX5_holds l D K (g 7) (z0 7) _ x2 x5 r402 hc403) (bw_V W41_8 W41_9 W41_10 W2_22 W41_11) rfl ⟨rfl, rfl⟩ (by decide +kernel) rfl ⟨Nat.le_of_ble_eq_true rfl, Nat.le_of_ble_eq_true rfl⟩ (hP.perm hp404).lef (hD.perm hp404).lef rfl rfl (zj_perm (ws' := wbALL K g z0 y0) hP hD hS hA hp404 (by refine List.Perm.symm ?_; exact wbALL_perm [7, 0, 1, 2, 3, 4, 5, 6, 8, 9, 10, 11, 12, 13, 14] (by decide))) hS hl.1 rfl (Nat.le_of_ble_eq_true rfl) dX8_copy_79 ⟨Nat.zero_le _, Nat.zero_le _⟩ rfl (fun H locs hP hD hS => ?_)
                refine lv_if_eq (tgt := 97) X.1 X.2.1 dX8_copy_82 (by decide) (fun c405 => ?_) (fun c405 => ?_)
                · have hf := ite_t hf c405
                  refine lv_aload_n X.1 X.2.1 dX8_copy_97 rfl (lv_at hl 2 rfl) ?_
                  refine lv_iconst (v := 2) X.1 X.2.1 dX8_copy_98 (by decide) ?_
                  obtain ⟨r406, z407, hc408, hf⟩ := bd2_e hf
                  refine z_V (n := 1) (As := [.int 2]) (rest := []) (ci := 8) (q0 := 0) X hK hN (kX8_find l D K g z0 y0 _ 2 r406 z407 hc408) (bw_V W31_16 W31_17 W31_18 W1_2 W31_19) rfl ⟨rfl, rfl⟩ (by decide +kernel) rfl ⟨Nat.le_of_ble_eq_true rfl, Nat.le_of_ble_eq_true rfl⟩ hP hD rfl rfl (zj_same hD hS hA) hS hl.1 rfl (Nat.le_of_ble_eq_true rfl) dX8_copy_99 ⟨Nat.zero_le _, Nat.zero_le _⟩ rfl (fun H locs hP hD hS => ?_)
                  obtain ⟨rfl, rfl⟩ := z_inj2 hf
                  exact z_iret X hr hlk hP hD hS dX8_copy_102
                · have hf := ite_f hf c405
                  refine lv_aload X.1 X.2.1 dX8_copy_85 (lv_at hl 0 rfl) ?_
                  refine lv_iload X.1 X.2.1 dX8_copy_87 (lv_at hl 6 rfl) ?_
                  refine lv_iload X.1 X.2.1 dX8_copy_89 (lv_at hl 7 rfl) ?_
                  obtain ⟨r409, hc410, hf⟩ := bd1_e hf
                  have hp411 : List.Perm (wbALL K g z0 y0) ((wbX5 K (g 4) (z0 4)) ++ ([0, 1, 2, 3, 5, 6, 7, 8, 9, 10, 11, 12, 13, 14].map (bfALL K g z0 y0)).flatten) := wbALL_perm [4, 0, 1, 2, 3, 5, 6, 7, 8, 9, 10, 11, 12, 13, 14] (by decide)
                  refine z_V (n := 2) (As := [.int x4, .int x5]) (rest := []) (ci := 5) (q0 := 0) X hK hN (kX5_holds l D K (g 4) (z0 4) _ x4 x5 r409 hc410) (bw_V W41_8 W41_9 W41_10 W2_22 W41_11) rfl ⟨rfl, rfl⟩ (by decide +kernel) rfl ⟨Nat.le_of_ble_eq_true rfl, Nat.le_of_ble_eq_true rfl⟩ (hP.perm hp411).lef (hD.perm hp411).lef rfl rfl (zj_perm (ws' := wbALL K g z0 y0) hP hD hS hA hp411 (by refine List.Perm.symm ?_; exact wbALL_perm [4, 0, 1, 2, 3, 5, 6, 7, 8, 9, 10, 11, 12, 13, 14] (by decide))) hS hl.1 rfl (Nat.le_of_ble_eq_true rfl) dX8_copy_91 ⟨Nat.zero_le _, Nat.zero_le _⟩ rfl (fun H locs hP hD hS => ?_)
                  refine lv_if_ne (tgt := 103) X.1 X.2.1 dX8_copy_94 (by decide) (fun c412 => ?_) (fun c412 => ?_)
                  · have hf := ite_f hf c412
                    refine lv_aload X.1 X.2.1 dX8_copy_103 (lv_at hl 1 rfl) ?_
                    refine z_get X hK hP hiX5 15 rfl rfl 3 (by decide) (bw_in W31_12) rfl dX8_copy_105 ?_
                    refine lv_iload_n X.1 X.2.1 dX8_copy_108 rfl (lv_at hl 4 rfl) ?_
                    refine lv_aload X.1 X.2.1 dX8_copy_109 (lv_at hl 0 rfl) ?_
                    refine z_get X hK hP hiX5 9 rfl rfl 3 (by decide) (bw_in W31_12) rfl dX8_copy_111 ?_
                    refine lv_iload X.1 X.2.1 dX8_copy_114 (lv_at hl 6 rfl) ?_
                    refine lv_iload X.1 X.2.1 dX8_copy_116 (lv_at hl 7 rfl) ?_
                    obtain ⟨⟨⟨⟨ha413, ha414⟩, ha415⟩, ha416, ha417⟩, hf⟩ := asr_e hf
                    obtain ⟨z418, ez418, hf⟩ := stp_e hf
                    refine z_acopy (ws' := wbALL K g z418 y0) X hK hP hD hS (bw_in W41_4) (bw_in W41_5) (bw_in W41_6) (bw_in W41_7) hl.1 16 10 rfl rfl ha413 ha414 ha415 ha416 ha417 (Nat.le_of_ble_eq_true rfl) (Nat.le_of_ble_eq_true rfl) dX8_copy_118 (by rw [ez418]; rfl) (fun H locs hP hD hS => ?_)
                    refine lv_iconst (v := 1) X.1 X.2.1 dX8_copy_121 (by decide) ?_
                    obtain ⟨rfl, rfl⟩ := z_inj2 hf
                    exact z_iret X hr hlk hP hD hS dX8_copy_122
                  · have hf := ite_t hf c412
                    refine lv_aload_n X.1 X.2.1 dX8_copy_97 rfl (lv_at hl 2 rfl) ?_
                    refine lv_iconst (v := 2) X.1 X.2.1 dX8_copy_98 (by decide) ?_
                    obtain ⟨r419, z420, hc421, hf⟩ := bd2_e hf
                    refine z_V (n := 1) (As := [.int 2]) (rest := []) (ci := 8) (q0 := 0) X hK hN (kX8_find l D K g z0 y0 _ 2 r419 z420 hc421) (bw_V W31_16 W31_17 W31_18 W1_2 W31_19) rfl ⟨rfl, rfl⟩ (by decide +kernel) rfl ⟨Nat.le_of_ble_eq_true rfl, Nat.le_of_ble_eq_true rfl⟩ hP hD rfl rfl (zj_same hD hS hA) hS hl.1 rfl (Nat.le_of_ble_eq_true rfl) dX8_copy_99 ⟨Nat.zero_le _, Nat.zero_le _⟩ rfl (fun H locs hP hD hS => ?_)
                    obtain ⟨rfl, rfl⟩ := z_inj2 hf
                    exact z_iret X hr hlk hP hD hS dX8_copy_102
              · have hf := ite_f hf c401
                refine lv_aload_n X.1 X.2.1 dX8_copy_68 rfl (lv_at hl 2 rfl) ?_
                refine lv_iconst (v := 4) X.1 X.2.1 dX8_copy_69 (by decide) ?_
                obtain ⟨r422, z423, hc424, hf⟩ := bd2_e hf
                refine z_V (n := 1) (As := [.int 4]) (rest := []) (ci := 8) (q0 := 0) X hK hN (kX8_find l D K g z0 y0 _ 4 r422 z423 hc424) (bw_V W31_16 W31_17 W31_18 W1_2 W31_19) rfl ⟨rfl, rfl⟩ (by decide +kernel) rfl ⟨Nat.le_of_ble_eq_true rfl, Nat.le_of_ble_eq_true rfl⟩ hP hD rfl rfl (zj_same hD hS hA) hS hl.1 rfl (Nat.le_of_ble_eq_true rfl) dX8_copy_70 ⟨Nat.zero_le _, Nat.zero_le _⟩ rfl (fun H locs hP hD hS => ?_)
                obtain ⟨rfl, rfl⟩ := z_inj2 hf
                exact z_iret X hr hlk hP hD hS dX8_copy_73
            · have hf := ite_f hf c400
              refine lv_aload_n X.1 X.2.1 dX8_copy_49 rfl (lv_at hl 2 rfl) ?_
              refine lv_iconst (v := 1) X.1 X.2.1 dX8_copy_50 (by decide) ?_
              obtain ⟨r425, z426, hc427, hf⟩ := bd2_e hf
              refine z_V (n := 1) (As := [.int 1]) (rest := []) (ci := 8) (q0 := 0) X hK hN (kX8_find l D K g z0 y0 _ 1 r425 z426 hc427) (bw_V W31_16 W31_17 W31_18 W1_2 W31_19) rfl ⟨rfl, rfl⟩ (by decide +kernel) rfl ⟨Nat.le_of_ble_eq_true rfl, Nat.le_of_ble_eq_true rfl⟩ hP hD rfl rfl (zj_same hD hS hA) hS hl.1 rfl (Nat.le_of_ble_eq_true rfl) dX8_copy_51 ⟨Nat.zero_le _, Nat.zero_le _⟩ rfl (fun H locs hP hD hS => ?_)
              obtain ⟨rfl, rfl⟩ := z_inj2 hf
              exact z_iret X hr hlk hP hD hS dX8_copy_54
        have hf := ite_f hf c395
        by_cases c428 : x3 = 1
        · have hf := ite_t hf c428
          refine z_aald X hK hP 2 3 rfl rfl (by rw [c428]; exact vp_lit _ _ (by decide)) (by rw [c428] <;> rfl) dX8_copy_30 ?_
          refine lv_astore (lv' := [(7, .ref (g 5 0)), (6, .ref (g 7 0)), (0, .ref (g 0 0)), (1, .int x1), (2, .int x2), (3, .int x3), (4, .int x4), (5, .int x5)]) X.1 X.2.1 dX8_copy_31 hl (by decide) rfl (fun ls hl => ?_)
          refine lv_aload X.1 X.2.1 dX8_copy_33 (lv_at hl 1 rfl) ?_
          refine z_get X hK hP hiX5 15 rfl rfl 0 (by decide) (bw_in W31_10) rfl dX8_copy_35 ?_
          refine lv_if_ne (tgt := 49) X.1 X.2.1 dX8_copy_38 (by decide) (fun c429 => ?_) (fun c429 => ?_)
          · have hf := ite_f hf c429
            refine lv_aload_n X.1 X.2.1 dX8_copy_49 rfl (lv_at hl 2 rfl) ?_
            refine lv_iconst (v := 1) X.1 X.2.1 dX8_copy_50 (by decide) ?_
            obtain ⟨r430, z431, hc432, hf⟩ := bd2_e hf
            refine z_V (n := 1) (As := [.int 1]) (rest := []) (ci := 8) (q0 := 0) X hK hN (kX8_find l D K g z0 y0 _ 1 r430 z431 hc432) (bw_V W31_16 W31_17 W31_18 W1_2 W31_19) rfl ⟨rfl, rfl⟩ (by decide +kernel) rfl ⟨Nat.le_of_ble_eq_true rfl, Nat.le_of_ble_eq_true rfl⟩ hP hD rfl rfl (zj_same hD hS hA) hS hl.1 rfl (Nat.le_of_ble_eq_true rfl) dX8_copy_51 ⟨Nat.zero_le _, Nat.zero_le _⟩ rfl (fun H locs hP hD hS => ?_)
            obtain ⟨rfl, rfl⟩ := z_inj2 hf
            exact z_iret X hr hlk hP hD hS dX8_copy_54
          · have hf := ite_t hf c429
            refine lv_aload X.1 X.2.1 dX8_copy_41 (lv_at hl 0 rfl) ?_
            refine z_get X hK hP hiX5 11 rfl rfl 0 (by decide) (bw_in W31_10) rfl dX8_copy_43 ?_
            refine lv_if_eq (tgt := 55) X.1 X.2.1 dX8_copy_46 (by decide) (fun c433 => ?_) (fun c433 => ?_)
            · have hf := ite_t hf c433
              refine lv_aload X.1 X.2.1 dX8_copy_55 (lv_at hl 1 rfl) ?_
              refine z_get X hK hP hiX5 15 rfl rfl 1 (by decide) (bw_in W41_3) rfl dX8_copy_57 ?_
              refine lv_aload X.1 X.2.1 dX8_copy_60 (lv_at hl 0 rfl) ?_
              refine z_get X hK hP hiX5 11 rfl rfl 1 (by decide) (bw_in W41_3) rfl dX8_copy_62 ?_
              refine lv_icmp_eq (tgt := 74) X.1 X.2.1 dX8_copy_65 (by decide) (fun c434 => ?_) (fun c434 => ?_)
              · have hf := ite_t hf c434
                refine lv_aload X.1 X.2.1 dX8_copy_74 (lv_at hl 1 rfl) ?_
                refine lv_iload_n X.1 X.2.1 dX8_copy_76 rfl (lv_at hl 4 rfl) ?_
                refine lv_iload X.1 X.2.1 dX8_copy_77 (lv_at hl 7 rfl) ?_
                obtain ⟨r435, hc436, hf⟩ := bd1_e hf
                have hp437 : List.Perm (wbALL K g z0 y0) ((wbX5 K (g 7) (z0 7)) ++ ([0, 1, 2, 3, 4, 5, 6, 8, 9, 10, 11, 12, 13, 14].map (bfALL K g z0 y0)).flatten) := wbALL_perm [7, 0, 1, 2, 3, 4, 5, 6, 8, 9, 10, 11, 12, 13, 14] (by decide)
                refine z_V (n := 2) (As := [.int x2, .int x5]) (rest := []) (ci := 5) (q0 := 0) X hK hN (kX5_holds l D K (g 7) (z0 7) _ x2 x5 r435 hc436) (bw_V W41_8 W41_9 W41_10 W2_22 W41_11) rfl ⟨rfl, rfl⟩ (by decide +kernel) rfl ⟨Nat.le_of_ble_eq_true rfl, Nat.le_of_ble_eq_true rfl⟩ (hP.perm hp437).lef (hD.perm hp437).lef rfl rfl (zj_perm (ws' := wbALL K g z0 y0) hP hD hS hA hp437 (by refine List.Perm.symm ?_; exact wbALL_perm [7, 0, 1, 2, 3, 4, 5, 6, 8, 9, 10, 11, 12, 13, 14] (by decide))) hS hl.1 rfl (Nat.le_of_ble_eq_true rfl) dX8_copy_79 ⟨Nat.zero_le _, Nat.zero_le _⟩ rfl (fun H locs hP hD hS => ?_)
                refine lv_if_eq (tgt := 97) X.1 X.2.1 dX8_copy_82 (by decide) (fun c438 => ?_) (fun c438 => ?_)
                · have hf := ite_t hf c438
                  refine lv_aload_n X.1 X.2.1 dX8_copy_97 rfl (lv_at hl 2 rfl) ?_
                  refine lv_iconst (v := 2) X.1 X.2.1 dX8_copy_98 (by decide) ?_
                  obtain ⟨r439, z440, hc441, hf⟩ := bd2_e hf
                  refine z_V (n := 1) (As := [.int 2]) (rest := []) (ci := 8) (q0 := 0) X hK hN (kX8_find l D K g z0 y0 _ 2 r439 z440 hc441) (bw_V W31_16 W31_17 W31_18 W1_2 W31_19) rfl ⟨rfl, rfl⟩ (by decide +kernel) rfl ⟨Nat.le_of_ble_eq_true rfl, Nat.le_of_ble_eq_true rfl⟩ hP hD rfl rfl (zj_same hD hS hA) hS hl.1 rfl (Nat.le_of_ble_eq_true rfl) dX8_copy_99 ⟨Nat.zero_le _, Nat.zero_le _⟩ rfl (fun H locs hP hD hS => ?_)
                  obtain ⟨rfl, rfl⟩ := z_inj2 hf
                  exact z_iret X hr hlk hP hD hS dX8_copy_102
                · have hf := ite_f hf c438
                  refine lv_aload X.1 X.2.1 dX8_copy_85 (lv_at hl 0 rfl) ?_
                  refine lv_iload X.1 X.2.1 dX8_copy_87 (lv_at hl 6 rfl) ?_
                  refine lv_iload X.1 X.2.1 dX8_copy_89 (lv_at hl 7 rfl) ?_
                  obtain ⟨r442, hc443, hf⟩ := bd1_e hf
                  have hp444 : List.Perm (wbALL K g z0 y0) ((wbX5 K (g 5) (z0 5)) ++ ([0, 1, 2, 3, 4, 6, 7, 8, 9, 10, 11, 12, 13, 14].map (bfALL K g z0 y0)).flatten) := wbALL_perm [5, 0, 1, 2, 3, 4, 6, 7, 8, 9, 10, 11, 12, 13, 14] (by decide)
                  refine z_V (n := 2) (As := [.int x4, .int x5]) (rest := []) (ci := 5) (q0 := 0) X hK hN (kX5_holds l D K (g 5) (z0 5) _ x4 x5 r442 hc443) (bw_V W41_8 W41_9 W41_10 W2_22 W41_11) rfl ⟨rfl, rfl⟩ (by decide +kernel) rfl ⟨Nat.le_of_ble_eq_true rfl, Nat.le_of_ble_eq_true rfl⟩ (hP.perm hp444).lef (hD.perm hp444).lef rfl rfl (zj_perm (ws' := wbALL K g z0 y0) hP hD hS hA hp444 (by refine List.Perm.symm ?_; exact wbALL_perm [5, 0, 1, 2, 3, 4, 6, 7, 8, 9, 10, 11, 12, 13, 14] (by decide))) hS hl.1 rfl (Nat.le_of_ble_eq_true rfl) dX8_copy_91 ⟨Nat.zero_le _, Nat.zero_le _⟩ rfl (fun H locs hP hD hS => ?_)
                  refine lv_if_ne (tgt := 103) X.1 X.2.1 dX8_copy_94 (by decide) (fun c445 => ?_) (fun c445 => ?_)
                  · have hf := ite_f hf c445
                    refine lv_aload X.1 X.2.1 dX8_copy_103 (lv_at hl 1 rfl) ?_
                    refine z_get X hK hP hiX5 15 rfl rfl 3 (by decide) (bw_in W31_12) rfl dX8_copy_105 ?_
                    refine lv_iload_n X.1 X.2.1 dX8_copy_108 rfl (lv_at hl 4 rfl) ?_
                    refine lv_aload X.1 X.2.1 dX8_copy_109 (lv_at hl 0 rfl) ?_
                    refine z_get X hK hP hiX5 11 rfl rfl 3 (by decide) (bw_in W31_12) rfl dX8_copy_111 ?_
                    refine lv_iload X.1 X.2.1 dX8_copy_114 (lv_at hl 6 rfl) ?_
                    refine lv_iload X.1 X.2.1 dX8_copy_116 (lv_at hl 7 rfl) ?_
                    obtain ⟨⟨⟨⟨ha446, ha447⟩, ha448⟩, ha449, ha450⟩, hf⟩ := asr_e hf
                    obtain ⟨z451, ez451, hf⟩ := stp_e hf
                    refine z_acopy (ws' := wbALL K g z451 y0) X hK hP hD hS (bw_in W41_4) (bw_in W41_5) (bw_in W41_6) (bw_in W41_7) hl.1 16 12 rfl rfl ha446 ha447 ha448 ha449 ha450 (Nat.le_of_ble_eq_true rfl) (Nat.le_of_ble_eq_true rfl) dX8_copy_118 (by rw [ez451]; rfl) (fun H locs hP hD hS => ?_)
                    refine lv_iconst (v := 1) X.1 X.2.1 dX8_copy_121 (by decide) ?_
                    obtain ⟨rfl, rfl⟩ := z_inj2 hf
                    exact z_iret X hr hlk hP hD hS dX8_copy_122
                  · have hf := ite_t hf c445
                    refine lv_aload_n X.1 X.2.1 dX8_copy_97 rfl (lv_at hl 2 rfl) ?_
                    refine lv_iconst (v := 2) X.1 X.2.1 dX8_copy_98 (by decide) ?_
                    obtain ⟨r452, z453, hc454, hf⟩ := bd2_e hf
                    refine z_V (n := 1) (As := [.int 2]) (rest := []) (ci := 8) (q0 := 0) X hK hN (kX8_find l D K g z0 y0 _ 2 r452 z453 hc454) (bw_V W31_16 W31_17 W31_18 W1_2 W31_19) rfl ⟨rfl, rfl⟩ (by decide +kernel) rfl ⟨Nat.le_of_ble_eq_true rfl, Nat.le_of_ble_eq_true rfl⟩ hP hD rfl rfl (zj_same hD hS hA) hS hl.1 rfl (Nat.le_of_ble_eq_true rfl) dX8_copy_99 ⟨Nat.zero_le _, Nat.zero_le _⟩ rfl (fun H locs hP hD hS => ?_)
                    obtain ⟨rfl, rfl⟩ := z_inj2 hf
                    exact z_iret X hr hlk hP hD hS dX8_copy_102
              · have hf := ite_f hf c434
                refine lv_aload_n X.1 X.2.1 dX8_copy_68 rfl (lv_at hl 2 rfl) ?_
                refine lv_iconst (v := 4) X.1 X.2.1 dX8_copy_69 (by decide) ?_
                obtain ⟨r455, z456, hc457, hf⟩ := bd2_e hf
                refine z_V (n := 1) (As := [.int 4]) (rest := []) (ci := 8) (q0 := 0) X hK hN (kX8_find l D K g z0 y0 _ 4 r455 z456 hc457) (bw_V W31_16 W31_17 W31_18 W1_2 W31_19) rfl ⟨rfl, rfl⟩ (by decide +kernel) rfl ⟨Nat.le_of_ble_eq_true rfl, Nat.le_of_ble_eq_true rfl⟩ hP hD rfl rfl (zj_same hD hS hA) hS hl.1 rfl (Nat.le_of_ble_eq_true rfl) dX8_copy_70 ⟨Nat.zero_le _, Nat.zero_le _⟩ rfl (fun H locs hP hD hS => ?_)
                obtain ⟨rfl, rfl⟩ := z_inj2 hf
                exact z_iret X hr hlk hP hD hS dX8_copy_73
            · have hf := ite_f hf c433
              refine lv_aload_n X.1 X.2.1 dX8_copy_49 rfl (lv_at hl 2 rfl) ?_
              refine lv_iconst (v := 1) X.1 X.2.1 dX8_copy_50 (by decide) ?_
              obtain ⟨r458, z459, hc460, hf⟩ := bd2_e hf
              refine z_V (n := 1) (As := [.int 1]) (rest := []) (ci := 8) (q0 := 0) X hK hN (kX8_find l D K g z0 y0 _ 1 r458 z459 hc460) (bw_V W31_16 W31_17 W31_18 W1_2 W31_19) rfl ⟨rfl, rfl⟩ (by decide +kernel) rfl ⟨Nat.le_of_ble_eq_true rfl, Nat.le_of_ble_eq_true rfl⟩ hP hD rfl rfl (zj_same hD hS hA) hS hl.1 rfl (Nat.le_of_ble_eq_true rfl) dX8_copy_51 ⟨Nat.zero_le _, Nat.zero_le _⟩ rfl (fun H locs hP hD hS => ?_)
              obtain ⟨rfl, rfl⟩ := z_inj2 hf
              exact z_iret X hr hlk hP hD hS dX8_copy_54
        have hf := ite_f hf c428
        by_cases c461 : x3 = 2
        · have hf := ite_t hf c461
          refine z_aald X hK hP 2 3 rfl rfl (by rw [c461]; exact vp_lit _ _ (by decide)) (by rw [c461] <;> rfl) dX8_copy_30 ?_
          refine lv_astore (lv' := [(7, .ref (g 6 0)), (6, .ref (g 7 0)), (0, .ref (g 0 0)), (1, .int x1), (2, .int x2), (3, .int x3), (4, .int x4), (5, .int x5)]) X.1 X.2.1 dX8_copy_31 hl (by decide) rfl (fun ls hl => ?_)
          refine lv_aload X.1 X.2.1 dX8_copy_33 (lv_at hl 1 rfl) ?_
          refine z_get X hK hP hiX5 15 rfl rfl 0 (by decide) (bw_in W31_10) rfl dX8_copy_35 ?_
          refine lv_if_ne (tgt := 49) X.1 X.2.1 dX8_copy_38 (by decide) (fun c462 => ?_) (fun c462 => ?_)
          · have hf := ite_f hf c462
            refine lv_aload_n X.1 X.2.1 dX8_copy_49 rfl (lv_at hl 2 rfl) ?_
            refine lv_iconst (v := 1) X.1 X.2.1 dX8_copy_50 (by decide) ?_
            obtain ⟨r463, z464, hc465, hf⟩ := bd2_e hf
            refine z_V (n := 1) (As := [.int 1]) (rest := []) (ci := 8) (q0 := 0) X hK hN (kX8_find l D K g z0 y0 _ 1 r463 z464 hc465) (bw_V W31_16 W31_17 W31_18 W1_2 W31_19) rfl ⟨rfl, rfl⟩ (by decide +kernel) rfl ⟨Nat.le_of_ble_eq_true rfl, Nat.le_of_ble_eq_true rfl⟩ hP hD rfl rfl (zj_same hD hS hA) hS hl.1 rfl (Nat.le_of_ble_eq_true rfl) dX8_copy_51 ⟨Nat.zero_le _, Nat.zero_le _⟩ rfl (fun H locs hP hD hS => ?_)
            obtain ⟨rfl, rfl⟩ := z_inj2 hf
            exact z_iret X hr hlk hP hD hS dX8_copy_54
          · have hf := ite_t hf c462
            refine lv_aload X.1 X.2.1 dX8_copy_41 (lv_at hl 0 rfl) ?_
            refine z_get X hK hP hiX5 13 rfl rfl 0 (by decide) (bw_in W31_10) rfl dX8_copy_43 ?_
            refine lv_if_eq (tgt := 55) X.1 X.2.1 dX8_copy_46 (by decide) (fun c466 => ?_) (fun c466 => ?_)
            · have hf := ite_t hf c466
              refine lv_aload X.1 X.2.1 dX8_copy_55 (lv_at hl 1 rfl) ?_
              refine z_get X hK hP hiX5 15 rfl rfl 1 (by decide) (bw_in W41_3) rfl dX8_copy_57 ?_
              refine lv_aload X.1 X.2.1 dX8_copy_60 (lv_at hl 0 rfl) ?_
              refine z_get X hK hP hiX5 13 rfl rfl 1 (by decide) (bw_in W41_3) rfl dX8_copy_62 ?_
              refine lv_icmp_eq (tgt := 74) X.1 X.2.1 dX8_copy_65 (by decide) (fun c467 => ?_) (fun c467 => ?_)
              · have hf := ite_t hf c467
                refine lv_aload X.1 X.2.1 dX8_copy_74 (lv_at hl 1 rfl) ?_
                refine lv_iload_n X.1 X.2.1 dX8_copy_76 rfl (lv_at hl 4 rfl) ?_
                refine lv_iload X.1 X.2.1 dX8_copy_77 (lv_at hl 7 rfl) ?_
                obtain ⟨r468, hc469, hf⟩ := bd1_e hf
                have hp470 : List.Perm (wbALL K g z0 y0) ((wbX5 K (g 7) (z0 7)) ++ ([0, 1, 2, 3, 4, 5, 6, 8, 9, 10, 11, 12, 13, 14].map (bfALL K g z0 y0)).flatten) := wbALL_perm [7, 0, 1, 2, 3, 4, 5, 6, 8, 9, 10, 11, 12, 13, 14] (by decide)
                refine z_V (n := 2) (As := [.int x2, .int x5]) (rest := []) (ci := 5) (q0 := 0) X hK hN (kX5_holds l D K (g 7) (z0 7) _ x2 x5 r468 hc469) (bw_V W41_8 W41_9 W41_10 W2_22 W41_11) rfl ⟨rfl, rfl⟩ (by decide +kernel) rfl ⟨Nat.le_of_ble_eq_true rfl, Nat.le_of_ble_eq_true rfl⟩ (hP.perm hp470).lef (hD.perm hp470).lef rfl rfl (zj_perm (ws' := wbALL K g z0 y0) hP hD hS hA hp470 (by refine List.Perm.symm ?_; exact wbALL_perm [7, 0, 1, 2, 3, 4, 5, 6, 8, 9, 10, 11, 12, 13, 14] (by decide))) hS hl.1 rfl (Nat.le_of_ble_eq_true rfl) dX8_copy_79 ⟨Nat.zero_le _, Nat.zero_le _⟩ rfl (fun H locs hP hD hS => ?_)
                refine lv_if_eq (tgt := 97) X.1 X.2.1 dX8_copy_82 (by decide) (fun c471 => ?_) (fun c471 => ?_)
                · have hf := ite_t hf c471
                  refine lv_aload_n X.1 X.2.1 dX8_copy_97 rfl (lv_at hl 2 rfl) ?_
                  refine lv_iconst (v := 2) X.1 X.2.1 dX8_copy_98 (by decide) ?_
                  obtain ⟨r472, z473, hc474, hf⟩ := bd2_e hf
                  refine z_V (n := 1) (As := [.int 2]) (rest := []) (ci := 8) (q0 := 0) X hK hN (kX8_find l D K g z0 y0 _ 2 r472 z473 hc474) (bw_V W31_16 W31_17 W31_18 W1_2 W31_19) rfl ⟨rfl, rfl⟩ (by decide +kernel) rfl ⟨Nat.le_of_ble_eq_true rfl, Nat.le_of_ble_eq_true rfl⟩ hP hD rfl rfl (zj_same hD hS hA) hS hl.1 rfl (Nat.le_of_ble_eq_true rfl) dX8_copy_99 ⟨Nat.zero_le _, Nat.zero_le _⟩ rfl (fun H locs hP hD hS => ?_)
                  obtain ⟨rfl, rfl⟩ := z_inj2 hf
                  exact z_iret X hr hlk hP hD hS dX8_copy_102
                · have hf := ite_f hf c471
                  refine lv_aload X.1 X.2.1 dX8_copy_85 (lv_at hl 0 rfl) ?_
                  refine lv_iload X.1 X.2.1 dX8_copy_87 (lv_at hl 6 rfl) ?_
                  refine lv_iload X.1 X.2.1 dX8_copy_89 (lv_at hl 7 rfl) ?_
                  obtain ⟨r475, hc476, hf⟩ := bd1_e hf
                  have hp477 : List.Perm (wbALL K g z0 y0) ((wbX5 K (g 6) (z0 6)) ++ ([0, 1, 2, 3, 4, 5, 7, 8, 9, 10, 11, 12, 13, 14].map (bfALL K g z0 y0)).flatten) := wbALL_perm [6, 0, 1, 2, 3, 4, 5, 7, 8, 9, 10, 11, 12, 13, 14] (by decide)
                  refine z_V (n := 2) (As := [.int x4, .int x5]) (rest := []) (ci := 5) (q0 := 0) X hK hN (kX5_holds l D K (g 6) (z0 6) _ x4 x5 r475 hc476) (bw_V W41_8 W41_9 W41_10 W2_22 W41_11) rfl ⟨rfl, rfl⟩ (by decide +kernel) rfl ⟨Nat.le_of_ble_eq_true rfl, Nat.le_of_ble_eq_true rfl⟩ (hP.perm hp477).lef (hD.perm hp477).lef rfl rfl (zj_perm (ws' := wbALL K g z0 y0) hP hD hS hA hp477 (by refine List.Perm.symm ?_; exact wbALL_perm [6, 0, 1, 2, 3, 4, 5, 7, 8, 9, 10, 11, 12, 13, 14] (by decide))) hS hl.1 rfl (Nat.le_of_ble_eq_true rfl) dX8_copy_91 ⟨Nat.zero_le _, Nat.zero_le _⟩ rfl (fun H locs hP hD hS => ?_)
                  refine lv_if_ne (tgt := 103) X.1 X.2.1 dX8_copy_94 (by decide) (fun c478 => ?_) (fun c478 => ?_)
                  · have hf := ite_f hf c478
                    refine lv_aload X.1 X.2.1 dX8_copy_103 (lv_at hl 1 rfl) ?_
                    refine z_get X hK hP hiX5 15 rfl rfl 3 (by decide) (bw_in W31_12) rfl dX8_copy_105 ?_
                    refine lv_iload_n X.1 X.2.1 dX8_copy_108 rfl (lv_at hl 4 rfl) ?_
                    refine lv_aload X.1 X.2.1 dX8_copy_109 (lv_at hl 0 rfl) ?_
                    refine z_get X hK hP hiX5 13 rfl rfl 3 (by decide) (bw_in W31_12) rfl dX8_copy_111 ?_
                    refine lv_iload X.1 X.2.1 dX8_copy_114 (lv_at hl 6 rfl) ?_
                    refine lv_iload X.1 X.2.1 dX8_copy_116 (lv_at hl 7 rfl) ?_
                    obtain ⟨⟨⟨⟨ha479, ha480⟩, ha481⟩, ha482, ha483⟩, hf⟩ := asr_e hf
                    obtain ⟨z484, ez484, hf⟩ := stp_e hf
                    refine z_acopy (ws' := wbALL K g z484 y0) X hK hP hD hS (bw_in W41_4) (bw_in W41_5) (bw_in W41_6) (bw_in W41_7) hl.1 16 14 rfl rfl ha479 ha480 ha481 ha482 ha483 (Nat.le_of_ble_eq_true rfl) (Nat.le_of_ble_eq_true rfl) dX8_copy_118 (by rw [ez484]; rfl) (fun H locs hP hD hS => ?_)
                    refine lv_iconst (v := 1) X.1 X.2.1 dX8_copy_121 (by decide) ?_
                    obtain ⟨rfl, rfl⟩ := z_inj2 hf
                    exact z_iret X hr hlk hP hD hS dX8_copy_122
                  · have hf := ite_t hf c478
                    refine lv_aload_n X.1 X.2.1 dX8_copy_97 rfl (lv_at hl 2 rfl) ?_
                    refine lv_iconst (v := 2) X.1 X.2.1 dX8_copy_98 (by decide) ?_
                    obtain ⟨r485, z486, hc487, hf⟩ := bd2_e hf
                    refine z_V (n := 1) (As := [.int 2]) (rest := []) (ci := 8) (q0 := 0) X hK hN (kX8_find l D K g z0 y0 _ 2 r485 z486 hc487) (bw_V W31_16 W31_17 W31_18 W1_2 W31_19) rfl ⟨rfl, rfl⟩ (by decide +kernel) rfl ⟨Nat.le_of_ble_eq_true rfl, Nat.le_of_ble_eq_true rfl⟩ hP hD rfl rfl (zj_same hD hS hA) hS hl.1 rfl (Nat.le_of_ble_eq_true rfl) dX8_copy_99 ⟨Nat.zero_le _, Nat.zero_le _⟩ rfl (fun H locs hP hD hS => ?_)
                    obtain ⟨rfl, rfl⟩ := z_inj2 hf
                    exact z_iret X hr hlk hP hD hS dX8_copy_102
              · have hf := ite_f hf c467
                refine lv_aload_n X.1 X.2.1 dX8_copy_68 rfl (lv_at hl 2 rfl) ?_
                refine lv_iconst (v := 4) X.1 X.2.1 dX8_copy_69 (by decide) ?_
                obtain ⟨r488, z489, hc490, hf⟩ := bd2_e hf
                refine z_V (n := 1) (As := [.int 4]) (rest := []) (ci := 8) (q0 := 0) X hK hN (kX8_find l D K g z0 y0 _ 4 r488 z489 hc490) (bw_V W31_16 W31_17 W31_18 W1_2 W31_19) rfl ⟨rfl, rfl⟩ (by decide +kernel) rfl ⟨Nat.le_of_ble_eq_true rfl, Nat.le_of_ble_eq_true rfl⟩ hP hD rfl rfl (zj_same hD hS hA) hS hl.1 rfl (Nat.le_of_ble_eq_true rfl) dX8_copy_70 ⟨Nat.zero_le _, Nat.zero_le _⟩ rfl (fun H locs hP hD hS => ?_)
                obtain ⟨rfl, rfl⟩ := z_inj2 hf
                exact z_iret X hr hlk hP hD hS dX8_copy_73
            · have hf := ite_f hf c466
              refine lv_aload_n X.1 X.2.1 dX8_copy_49 rfl (lv_at hl 2 rfl) ?_
              refine lv_iconst (v := 1) X.1 X.2.1 dX8_copy_50 (by decide) ?_
              obtain ⟨r491, z492, hc493, hf⟩ := bd2_e hf
              refine z_V (n := 1) (As := [.int 1]) (rest := []) (ci := 8) (q0 := 0) X hK hN (kX8_find l D K g z0 y0 _ 1 r491 z492 hc493) (bw_V W31_16 W31_17 W31_18 W1_2 W31_19) rfl ⟨rfl, rfl⟩ (by decide +kernel) rfl ⟨Nat.le_of_ble_eq_true rfl, Nat.le_of_ble_eq_true rfl⟩ hP hD rfl rfl (zj_same hD hS hA) hS hl.1 rfl (Nat.le_of_ble_eq_true rfl) dX8_copy_51 ⟨Nat.zero_le _, Nat.zero_le _⟩ rfl (fun H locs hP hD hS => ?_)
              obtain ⟨rfl, rfl⟩ := z_inj2 hf
              exact z_iret X hr hlk hP hD hS dX8_copy_54
        have hf := ite_f hf c461
        by_cases c494 : x3 = 3
        · have hf := ite_t hf c494
          refine z_aald X hK hP 2 3 rfl rfl (by rw [c494]; exact vp_lit _ _ (by decide)) (by rw [c494] <;> rfl) dX8_copy_30 ?_
          refine lv_astore (lv' := [(7, .ref (g 7 0)), (6, .ref (g 7 0)), (0, .ref (g 0 0)), (1, .int x1), (2, .int x2), (3, .int x3), (4, .int x4), (5, .int x5)]) X.1 X.2.1 dX8_copy_31 hl (by decide) rfl (fun ls hl => ?_)
          refine lv_aload X.1 X.2.1 dX8_copy_33 (lv_at hl 1 rfl) ?_
          refine z_get X hK hP hiX5 15 rfl rfl 0 (by decide) (bw_in W31_10) rfl dX8_copy_35 ?_
          refine lv_if_ne (tgt := 49) X.1 X.2.1 dX8_copy_38 (by decide) (fun c495 => ?_) (fun c495 => ?_)
          · have hf := ite_f hf c495
            refine lv_aload_n X.1 X.2.1 dX8_copy_49 rfl (lv_at hl 2 rfl) ?_
            refine lv_iconst (v := 1) X.1 X.2.1 dX8_copy_50 (by decide) ?_
            obtain ⟨r496, z497, hc498, hf⟩ := bd2_e hf
            refine z_V (n := 1) (As := [.int 1]) (rest := []) (ci := 8) (q0 := 0) X hK hN (kX8_find l D K g z0 y0 _ 1 r496 z497 hc498) (bw_V W31_16 W31_17 W31_18 W1_2 W31_19) rfl ⟨rfl, rfl⟩ (by decide +kernel) rfl ⟨Nat.le_of_ble_eq_true rfl, Nat.le_of_ble_eq_true rfl⟩ hP hD rfl rfl (zj_same hD hS hA) hS hl.1 rfl (Nat.le_of_ble_eq_true rfl) dX8_copy_51 ⟨Nat.zero_le _, Nat.zero_le _⟩ rfl (fun H locs hP hD hS => ?_)
            obtain ⟨rfl, rfl⟩ := z_inj2 hf
            exact z_iret X hr hlk hP hD hS dX8_copy_54
          · have hf := ite_t hf c495
            refine lv_aload X.1 X.2.1 dX8_copy_41 (lv_at hl 0 rfl) ?_
            refine z_get X hK hP hiX5 15 rfl rfl 0 (by decide) (bw_in W31_10) rfl dX8_copy_43 ?_
            refine lv_if_eq (tgt := 55) X.1 X.2.1 dX8_copy_46 (by decide) (fun _ => ?_) (fun c => absurd c495 c)
            refine lv_aload X.1 X.2.1 dX8_copy_55 (lv_at hl 1 rfl) ?_
            refine z_get X hK hP hiX5 15 rfl rfl 1 (by decide) (bw_in W41_3) rfl dX8_copy_57 ?_
            refine lv_aload X.1 X.2.1 dX8_copy_60 (lv_at hl 0 rfl) ?_
            refine z_get X hK hP hiX5 15 rfl rfl 1 (by decide) (bw_in W41_3) rfl dX8_copy_62 ?_
            refine lv_icmp_eq (tgt := 74) X.1 X.2.1 dX8_copy_65 (by decide) (fun c499 => ?_) (fun c499 => ?_)
            · have hf := ite_t hf c499
              refine lv_aload X.1 X.2.1 dX8_copy_74 (lv_at hl 1 rfl) ?_
              refine lv_iload_n X.1 X.2.1 dX8_copy_76 rfl (lv_at hl 4 rfl) ?_
              refine lv_iload X.1 X.2.1 dX8_copy_77 (lv_at hl 7 rfl) ?_
              obtain ⟨r500, hc501, hf⟩ := bd1_e hf
              have hp502 : List.Perm (wbALL K g z0 y0) ((wbX5 K (g 7) (z0 7)) ++ ([0, 1, 2, 3, 4, 5, 6, 8, 9, 10, 11, 12, 13, 14].map (bfALL K g z0 y0)).flatten) := wbALL_perm [7, 0, 1, 2, 3, 4, 5, 6, 8, 9, 10, 11, 12, 13, 14] (by decide)
              refine z_V (n := 2) (As := [.int x2, .int x5]) (rest := []) (ci := 5) (q0 := 0) X hK hN (kX5_holds l D K (g 7) (z0 7) _ x2 x5 r500 hc501) (bw_V W41_8 W41_9 W41_10 W2_22 W41_11) rfl ⟨rfl, rfl⟩ (by decide +kernel) rfl ⟨Nat.le_of_ble_eq_true rfl, Nat.le_of_ble_eq_true rfl⟩ (hP.perm hp502).lef (hD.perm hp502).lef rfl rfl (zj_perm (ws' := wbALL K g z0 y0) hP hD hS hA hp502 (by refine List.Perm.symm ?_; exact wbALL_perm [7, 0, 1, 2, 3, 4, 5, 6, 8, 9, 10, 11, 12, 13, 14] (by decide))) hS hl.1 rfl (Nat.le_of_ble_eq_true rfl) dX8_copy_79 ⟨Nat.zero_le _, Nat.zero_le _⟩ rfl (fun H locs hP hD hS => ?_)
              refine lv_if_eq (tgt := 97) X.1 X.2.1 dX8_copy_82 (by decide) (fun c503 => ?_) (fun c503 => ?_)
              · have hf := ite_t hf c503
                refine lv_aload_n X.1 X.2.1 dX8_copy_97 rfl (lv_at hl 2 rfl) ?_
                refine lv_iconst (v := 2) X.1 X.2.1 dX8_copy_98 (by decide) ?_
                obtain ⟨r504, z505, hc506, hf⟩ := bd2_e hf
                refine z_V (n := 1) (As := [.int 2]) (rest := []) (ci := 8) (q0 := 0) X hK hN (kX8_find l D K g z0 y0 _ 2 r504 z505 hc506) (bw_V W31_16 W31_17 W31_18 W1_2 W31_19) rfl ⟨rfl, rfl⟩ (by decide +kernel) rfl ⟨Nat.le_of_ble_eq_true rfl, Nat.le_of_ble_eq_true rfl⟩ hP hD rfl rfl (zj_same hD hS hA) hS hl.1 rfl (Nat.le_of_ble_eq_true rfl) dX8_copy_99 ⟨Nat.zero_le _, Nat.zero_le _⟩ rfl (fun H locs hP hD hS => ?_)
                obtain ⟨rfl, rfl⟩ := z_inj2 hf
                exact z_iret X hr hlk hP hD hS dX8_copy_102
              · have hf := ite_f hf c503
                refine lv_aload X.1 X.2.1 dX8_copy_85 (lv_at hl 0 rfl) ?_
                refine lv_iload X.1 X.2.1 dX8_copy_87 (lv_at hl 6 rfl) ?_
                refine lv_iload X.1 X.2.1 dX8_copy_89 (lv_at hl 7 rfl) ?_
                obtain ⟨r507, hc508, hf⟩ := bd1_e hf
                have hp509 : List.Perm (wbALL K g z0 y0) ((wbX5 K (g 7) (z0 7)) ++ ([0, 1, 2, 3, 4, 5, 6, 8, 9, 10, 11, 12, 13, 14].map (bfALL K g z0 y0)).flatten) := wbALL_perm [7, 0, 1, 2, 3, 4, 5, 6, 8, 9, 10, 11, 12, 13, 14] (by decide)
                refine z_V (n := 2) (As := [.int x4, .int x5]) (rest := []) (ci := 5) (q0 := 0) X hK hN (kX5_holds l D K (g 7) (z0 7) _ x4 x5 r507 hc508) (bw_V W41_8 W41_9 W41_10 W2_22 W41_11) rfl ⟨rfl, rfl⟩ (by decide +kernel) rfl ⟨Nat.le_of_ble_eq_true rfl, Nat.le_of_ble_eq_true rfl⟩ (hP.perm hp509).lef (hD.perm hp509).lef rfl rfl (zj_perm (ws' := wbALL K g z0 y0) hP hD hS hA hp509 (by refine List.Perm.symm ?_; exact wbALL_perm [7, 0, 1, 2, 3, 4, 5, 6, 8, 9, 10, 11, 12, 13, 14] (by decide))) hS hl.1 rfl (Nat.le_of_ble_eq_true rfl) dX8_copy_91 ⟨Nat.zero_le _, Nat.zero_le _⟩ rfl (fun H locs hP hD hS => ?_)
                refine lv_if_ne (tgt := 103) X.1 X.2.1 dX8_copy_94 (by decide) (fun c510 => ?_) (fun c510 => ?_)
                · have hf := ite_f hf c510
                  refine lv_aload X.1 X.2.1 dX8_copy_103 (lv_at hl 1 rfl) ?_
                  refine z_get X hK hP hiX5 15 rfl rfl 3 (by decide) (bw_in W31_12) rfl dX8_copy_105 ?_
                  refine lv_iload_n X.1 X.2.1 dX8_copy_108 rfl (lv_at hl 4 rfl) ?_
                  refine lv_aload X.1 X.2.1 dX8_copy_109 (lv_at hl 0 rfl) ?_
                  refine z_get X hK hP hiX5 15 rfl rfl 3 (by decide) (bw_in W31_12) rfl dX8_copy_111 ?_
                  refine lv_iload X.1 X.2.1 dX8_copy_114 (lv_at hl 6 rfl) ?_
                  refine lv_iload X.1 X.2.1 dX8_copy_116 (lv_at hl 7 rfl) ?_
                  obtain ⟨⟨⟨⟨ha511, ha512⟩, ha513⟩, ha514, ha515⟩, hf⟩ := asr_e hf
                  obtain ⟨z516, ez516, hf⟩ := stp_e hf
                  refine z_acopy (ws' := wbALL K g z516 y0) X hK hP hD hS (bw_in W41_4) (bw_in W41_5) (bw_in W41_6) (bw_in W41_7) hl.1 16 16 rfl rfl ha511 ha512 ha513 ha514 ha515 (Nat.le_of_ble_eq_true rfl) (Nat.le_of_ble_eq_true rfl) dX8_copy_118 (by rw [ez516]; rfl) (fun H locs hP hD hS => ?_)
                  refine lv_iconst (v := 1) X.1 X.2.1 dX8_copy_121 (by decide) ?_
                  obtain ⟨rfl, rfl⟩ := z_inj2 hf
                  exact z_iret X hr hlk hP hD hS dX8_copy_122
                · have hf := ite_t hf c510
                  refine lv_aload_n X.1 X.2.1 dX8_copy_97 rfl (lv_at hl 2 rfl) ?_
                  refine lv_iconst (v := 2) X.1 X.2.1 dX8_copy_98 (by decide) ?_
                  obtain ⟨r517, z518, hc519, hf⟩ := bd2_e hf
                  refine z_V (n := 1) (As := [.int 2]) (rest := []) (ci := 8) (q0 := 0) X hK hN (kX8_find l D K g z0 y0 _ 2 r517 z518 hc519) (bw_V W31_16 W31_17 W31_18 W1_2 W31_19) rfl ⟨rfl, rfl⟩ (by decide +kernel) rfl ⟨Nat.le_of_ble_eq_true rfl, Nat.le_of_ble_eq_true rfl⟩ hP hD rfl rfl (zj_same hD hS hA) hS hl.1 rfl (Nat.le_of_ble_eq_true rfl) dX8_copy_99 ⟨Nat.zero_le _, Nat.zero_le _⟩ rfl (fun H locs hP hD hS => ?_)
                  obtain ⟨rfl, rfl⟩ := z_inj2 hf
                  exact z_iret X hr hlk hP hD hS dX8_copy_102
            · have hf := ite_f hf c499
              refine lv_aload_n X.1 X.2.1 dX8_copy_68 rfl (lv_at hl 2 rfl) ?_
              refine lv_iconst (v := 4) X.1 X.2.1 dX8_copy_69 (by decide) ?_
              obtain ⟨r520, z521, hc522, hf⟩ := bd2_e hf
              refine z_V (n := 1) (As := [.int 4]) (rest := []) (ci := 8) (q0 := 0) X hK hN (kX8_find l D K g z0 y0 _ 4 r520 z521 hc522) (bw_V W31_16 W31_17 W31_18 W1_2 W31_19) rfl ⟨rfl, rfl⟩ (by decide +kernel) rfl ⟨Nat.le_of_ble_eq_true rfl, Nat.le_of_ble_eq_true rfl⟩ hP hD rfl rfl (zj_same hD hS hA) hS hl.1 rfl (Nat.le_of_ble_eq_true rfl) dX8_copy_70 ⟨Nat.zero_le _, Nat.zero_le _⟩ rfl (fun H locs hP hD hS => ?_)
              obtain ⟨rfl, rfl⟩ := z_inj2 hf
              exact z_iret X hr hlk hP hD hS dX8_copy_73
        have hf := ite_f hf c494
        cases hf
      have hf := ite_f hf c394
      cases hf
    · have hf := ite_f hf c6
      refine lv_bipush (v := -2) X.1 X.2.1 dX8_copy_14 (by decide) ?_
      obtain ⟨rfl, rfl⟩ := z_inj2 hf
      exact z_iret X hr hlk hP hD hS dX8_copy_16
