section ZIB
variable {p : Program} {l : Launch} {e : Env} {R : Room} {s : State} {m : MethodId} {args : Array Value} {below : List Frame} {meth : Method} {c : Code} {H : Heap} {locs : List Loc} {cells slots : Nat} {Q : State → Prop}
variable {pc : Nat} {ls : Array Slot} {rest st0 : List Value} {D : va_G} {K : Nat → ClassId} {A : Nat → Prop} {cc : ByteArray} {nL : Nat} {Ts : List Cond} {own : String} {y : MethodName} {bytes : ByteArray} {maxL n index : Nat} {wsy wsy' : List Cond} {rm : Room} {b : Nat} {As : List Value} {wr wc : va_W}
/-- a constructor's call where its cells stand behind the rest of the world -/
theorem z_IB {α : Type} {P : α → Prop} {w : α → va_W} {mc ms : Nat} (X : CallFix p m c cc nL s args Ts own) (hK : va_K D vwCl (zTys K) s) (hN : zN K A s) (hM : Met l y wsy rm (va_Pc (.ref b :: As) (zB D K H.size wc)) (zQc P D (va_A wc H.size) w) mc ms (va_A wc H.size)) (hG : GoodIn Ts wsy) (hw : wsy = Cond.code y bytes maxL none :: wsy') (hrc : rm.cells = mc ∧ rm.slots = ms) (hl0 : Cond.methodLink own index y ∈ Ts) (hi : Cond.initialized y.cls ∈ Ts) (him : Cond.instanceMethod y ∈ Ts) (hy1 : y.name = "<init>")
    (hd : y.cls ≠ "java/lang/invoke/MethodHandle" ∧ y.cls ≠ "java/lang/invoke/VarHandle" ∧ (parseMethodDescriptor y.desc).map (fun d => d.parameters.length) = some n) (hna : As.length = n) (hR : rm.frames + 1 ≤ R.frames ∧ 8 + (maxL + 11) + rm.locals ≤ R.locals)
    (hP : va_P D vwCl (wr ++ wc) H) (hD : va_D A (wr ++ wc)) (hS : va_S A s.heap H locs) (hA : ∀ q, s.heap.size ≤ q → A q) (hl : ls.size = nL) (hs0 : st0 = As.reverse ++ .ref b :: rest) (hrm : (rest.map fun v => v.category).sum ≤ 8) (hdg : decode cc pc = .ok (.invokespecial index, 3)) (hf : cells + mc ≤ R.cells ∧ slots + ms ≤ R.slots)
    (kk : ∀ (a : α) (H1 : Heap) (locs1 : List Loc), P a → va_P D vwCl (wr ++ w a) H1 → va_D A (wr ++ w a) → va_S A s.heap H1 locs1 → W p l e R s m args below meth c H1 locs1 (cells + mc) (slots + ms) Q (F0 m (pc + 3) ls rest)) : W p l e R s m args below meth c H locs cells slots Q (F0 m pc ls st0) := by
  have hF : ∀ q : Nat, va_A wc H.size q → A q := by
    intro q h
    rcases h with ⟨k, e, h⟩ | h
    · exact hD.rig.2 k (q, e) h
    · exact hA q (Nat.le_trans hS.1 h)
  have hr := va_runI (As := As) (rest := rest) (b := b) (H := H) (locs := locs) (cells := cells) (slots := slots) (below := below) (meth := meth) (e := e) (p := p) (g := F0 m pc ls st0) X hM (cwI n X.2.2.2.2 hG hw hrc.1 hrc.2 (X.2.2.2.2 _ hi) (X.2.2.2.2 _ hl0) (X.2.2.2.2 _ him) hy1 hd hR) ⟨zB_blind, zB_now hK hN hP.rig hD.rig hS hF⟩ rfl hna hl hs0 (lv_room hrm) hdg hf
  intro T hT X1
  obtain ⟨v, st₀, t, T', L, h0, X', hL, e1, e2, ⟨⟨hv, a, hp, hq, hd1⟩, hz, hk⟩, st⟩ := hr T hT X1
  cases hv
  rw [h0] at hz hk
  obtain ⟨gP, gD⟩ := (zj_right (w1 := w a) hP hD hS hA).2 t.heap hk hq hd1
  obtain ⟨t2, a1, b1⟩ := kk a t.heap (locs ++ L) hp gP gD
    ⟨Nat.le_trans hS.1 hz, fun q h1 h2 => by rw [hk q (Nat.lt_of_lt_of_le h1 hS.1) (fun z => h2 (hF q z))]; exact hS.2.1 q h1 h2, fun q hq => by
      rcases List.mem_append.mp hq with h | h
      · exact hS.2.2 q h
      · exact hF _ (hL q h)⟩ T' e1 X'
  exact ⟨t2, st t2 a1, b1⟩
end ZIB
set_option maxHeartbeats 4000000 in
set_option maxRecDepth 100000 in
theorem whole_open (hpure : ∀ (nL : Nat) (xs : Nat → Int32), nL ≤ 3072 → fL_law_18 nL xs 600 0 iZ iY iX9 = some 1) {p : Program} {e : Env} {s : State} {m : MethodId} {below : List Frame} {meth : Method} {c : Code} (l : Launch) {b L : Nat} {xs : Nat → Int32} (hL : L ≤ 3072) (C0 : lw_At p s m meth c b L xs) : W p l e room_1 s m #[Value.ref b] below meth c s.heap [] 0 0 (lw_Z below #[Value.ref b] s) (entryFrame m ([Value.ref b] : List Value).toArray 4) := by
  obtain ⟨hx, hb, hr, hml, hown, hts, hX, hbl, hlk, hgv⟩ := id C0
  have X : CallFix p m c cL_law 4 s #[Value.ref b] wsL_law RL := ⟨hx, hb, hml, hown, fun w h => hts w (wsL_law_in w h)⟩
  obtain ⟨A, hAdef⟩ : ∃ A : Nat → Prop, A = (fun q : Nat => s.heap.size ≤ q) := ⟨_, rfl⟩
  have hA : ∀ q : Nat, s.heap.size ≤ q → A q := fun q h => by rw [hAdef]; exact h
  have hAs : ∀ q : Nat, A q → s.heap.size ≤ q := fun q h => by rw [hAdef] at h; exact h
  have hbA : ¬ A b := fun h => absurd (hAs _ h) (Nat.not_le.mpr hbl)
  have hnA : ∀ a : Nat, a < s.heap.size → ¬ A a := fun a h q => absurd (hAs _ q) (Nat.not_le.mpr h)
  obtain ⟨c0, iS0, hKn0⟩ := u_known (C := RX0) (T := TX0) (N := 6) (n := 6) X.2.2.2.2 inlX0 (X.2.2.2.2 _ W2_6)
  obtain ⟨c1, iS1, hKn1⟩ := u_known (C := RX1) (T := TX1) (N := 4) (n := 4) X.2.2.2.2 inlX1 (X.2.2.2.2 _ W2_14)
  obtain ⟨c2, iS2, hKn2⟩ := u_known (C := RX2) (T := TX2) (N := 14) (n := 14) X.2.2.2.2 inlX2 (X.2.2.2.2 _ W1_17)
  obtain ⟨c3, iS3, hKn3⟩ := u_known (C := RX3) (T := TX3) (N := 7) (n := 7) X.2.2.2.2 inlX3 (X.2.2.2.2 _ W2_2)
  obtain ⟨c4, iS4, hKn4⟩ := u_known (C := RX4) (T := TX4) (N := 12) (n := 12) X.2.2.2.2 inlX4 (X.2.2.2.2 _ W1_21)
  obtain ⟨c5, iS5, hKn5⟩ := u_known (C := RX5) (T := TX5) (N := 4) (n := 4) X.2.2.2.2 inlX5 (X.2.2.2.2 _ W2_21)
  obtain ⟨c6, iS6, hKn6⟩ := u_known (C := RX6) (T := TX6) (N := 3) (n := 3) X.2.2.2.2 inlX6 (X.2.2.2.2 _ W2_10)
  obtain ⟨c7, iS7, hKn7⟩ := u_known (C := RX7) (T := TX7) (N := 4) (n := 4) X.2.2.2.2 inlX7 (X.2.2.2.2 _ W2_19)
  obtain ⟨c8, iS8, hKn8⟩ := u_known (C := RX8) (T := TX8) (N := 11) (n := 11) X.2.2.2.2 inlX8 (X.2.2.2.2 _ W1_1)
  obtain ⟨c9, iS9, hKn9⟩ := u_known (C := RX9) (T := TX9) (N := 44) (n := 44) X.2.2.2.2 inlX9 (X.2.2.2.2 _ W1_4)
  obtain ⟨kI, kkI, kcI, fI1, fI2, fI3⟩ := Cond.arrayClass_spec (X.2.2.2.2 _ W3_8)
  obtain ⟨kJ, kkJ, kcJ, fJ1, fJ2, fJ3⟩ := Cond.arrayClass_spec (X.2.2.2.2 _ W4_16)
  obtain ⟨kZ, kkZ, kcZ, fZ1, fZ2, fZ3⟩ := Cond.arrayClass_spec (X.2.2.2.2 _ W7_14)
  have aoS : va_AO "LeaversFloor$Sheet" s := va_AO.of (hts (.arrayOver (.object "LeaversFloor$Sheet")) (by decide +kernel))
  obtain ⟨kcS, kS, kkS, gS1, -, gS2, gS3, gS4⟩ := Cond.arrayOver_spec aoS
  have aoT : va_AO "LeaversFloor$Text" s := va_AO.of (hts (.arrayOver (.object "LeaversFloor$Text")) (by decide +kernel))
  obtain ⟨kcT, kT, kkT, gT1, -, gT2, gT3, gT4⟩ := Cond.arrayOver_spec aoT
  have hfl := flat_of_before _ hgv
  obtain ⟨tD, htD, hTD⟩ := va_Tof (tm := .static "LeaversFloor" "DIGEST_STEPS" "[I") (ty := .int) (N := 4) (f := fun j => .int (dstep j)) (A := A) (by decide) (hfl _ (by decide +kernel)) (va_eqt (hfl (Cond.eq (.length (.static "LeaversFloor" "DIGEST_STEPS" "[I")) (.int 4)) (by decide +kernel))) (fun j hj => by
    rcases (show j = 0 ∨ j = 1 ∨ j = 2 ∨ j = 3 by omega) with rfl | rfl | rfl | rfl
    · exact va_eqt (hfl (Cond.eq (.elem (.static "LeaversFloor" "DIGEST_STEPS" "[I") (.int 0)) (.int 0)) (by decide +kernel))
    · exact va_eqt (hfl (Cond.eq (.elem (.static "LeaversFloor" "DIGEST_STEPS" "[I") (.int 1)) (.int 9)) (by decide +kernel))
    · exact va_eqt (hfl (Cond.eq (.elem (.static "LeaversFloor" "DIGEST_STEPS" "[I") (.int 2)) (.int 20)) (by decide +kernel))
    · exact va_eqt (hfl (Cond.eq (.elem (.static "LeaversFloor" "DIGEST_STEPS" "[I") (.int 3)) (.int 60)) (by decide +kernel))) hnA
  have hZD := va_Zref (A := A) (hts (.laysStatic "LeaversFloor" "DIGEST_STEPS" "[I") (by decide +kernel)) (X.2.2.2.2 _ W1_2) htD hnA
  obtain ⟨K, hKe⟩ : ∃ K : Nat → ClassId, K = (fun k => if k = 0 then kI else if k = 1 then kJ else if k = 2 then kZ else if k = 3 then kS else if k = 4 then kT else tD) := ⟨_, rfl⟩
  obtain ⟨D, hKc⟩ : ∃ D : va_G, ∀ (k : Nat) (q : vw_C), vwCl[k]? = some q → u_Kn s q.1 q.2.1 q.2.2 (D.1 k) (D.2 k) := by
    refine ⟨(fun k => if k = 0 then c0 else if k = 1 then c1 else if k = 2 then c2 else if k = 3 then c3 else if k = 4 then c4 else if k = 5 then c5 else if k = 6 then c6 else if k = 7 then c7 else if k = 8 then c8 else c9, fun k => if k = 0 then iS0 else if k = 1 then iS1 else if k = 2 then iS2 else if k = 3 then iS3 else if k = 4 then iS4 else if k = 5 then iS5 else if k = 6 then iS6 else if k = 7 then iS7 else if k = 8 then iS8 else iS9), ?_⟩
    intro k q hq
    match k, hq with
    | 0, hq => cases hq; exact hKn0
    | 1, hq => cases hq; exact hKn1
    | 2, hq => cases hq; exact hKn2
    | 3, hq => cases hq; exact hKn3
    | 4, hq => cases hq; exact hKn4
    | 5, hq => cases hq; exact hKn5
    | 6, hq => cases hq; exact hKn6
    | 7, hq => cases hq; exact hKn7
    | 8, hq => cases hq; exact hKn8
    | 9, hq => cases hq; exact hKn9
    | k + 10, hq => simp [vwCl] at hq
  have hK : va_K D vwCl (zTys K) s := by
    refine ⟨hKc, fun k q h => ?_⟩
    rw [hKe] at h
    match k, h with
    | 0, h => cases h; exact ⟨fun n z => ⟨fun k h => (by cases h), kkI, fI2, kcI, fI3⟩, fI1⟩
    | 1, h => cases h; exact ⟨fun n z => ⟨fun k h => (by cases h), kkJ, fJ2, kcJ, fJ3⟩, fJ1⟩
    | 2, h => cases h; exact ⟨fun n z => ⟨fun k h => (by cases h), kkZ, fZ2, kcZ, fZ3⟩, fZ1⟩
    | 3, h => cases h; exact ⟨fun n z => ⟨fun k h => (by cases h), kkS, gS2, kcS, gS3⟩, kkS, kcS, gS2, gS3, gS1, gS4⟩
    | 4, h => cases h; exact ⟨fun n z => ⟨fun k h => (by cases h), kkT, gT2, kcT, gT3⟩, kkT, kcT, gT2, gT3, gT1, gT4⟩
    | k + 5, h => simp at h
  have hN : zN K A s := by
    refine ⟨⟨fun q hq => ?_, aoT, aoS⟩, ?_⟩
    · simp only [zNest, List.mem_cons, List.not_mem_nil, or_false] at hq
      rcases hq with rfl | rfl | rfl | rfl | rfl | rfl | rfl | rfl
      all_goals exact va_Nw.of rfl (hts _ (by decide +kernel))
    · rw [hKe]; exact ⟨hZD, hTD⟩
  have hS : va_S A s.heap s.heap [] := va_S.rf
  have hP : va_P D vwCl ([] : va_W) s.heap := fun k q h => by simp at h
  have hD : va_D A ([] : va_W) := ⟨fun i j p q h => by simp at h, fun k q h => by simp at h⟩
  have hl := lv_entry ([.ref b]) (n := 4) (Nat.le_of_ble_eq_true rfl)
  rw [lg_entry_eq]
  generalize (lg_sl ([.ref b]) ++ List.replicate (4 - (lg_sl ([.ref b])).length) Slot.unset).toArray = ls at hl ⊢
  have hl : lv_has ls 4 [(0, .ref b)] := hl
  have hiX8 : ∀ w ∈ u_ws RX8 TX8 11, w ∈ wsL_law := inlX8
  have hiX9 : ∀ w ∈ u_ws RX9 TX9 44, w ∈ wsL_law := inlX9
  refine va_new (ci := 8) (fs := [.null, .null, .null, .null, .null, .null, .null, .null, .null, .int 0, .int 0]) X.1 X.2.1 X.2.2.2.2 hiX8 tyX8 tyX8_ok X.2.2.2.1 (X.2.2.2.2 _ W1_0) (X.2.2.2.2 _ W1_1) (X.2.2.2.2 _ W1_2) hK hP hD hS hA rfl (fun j hj => by rcases (show j = 0 ∨ j = 1 ∨ j = 2 ∨ j = 3 ∨ j = 4 ∨ j = 5 ∨ j = 6 ∨ j = 7 ∨ j = 8 ∨ j = 9 ∨ j = 10 by omega) with rfl | rfl | rfl | rfl | rfl | rfl | rfl | rfl | rfl | rfl | rfl <;> rfl) (Nat.le_of_ble_eq_true rfl) (Nat.le_of_ble_eq_true rfl) dL_law_0 (fun q0 H hP hD hS => ?_)
  refine W.widen (k := 1) (n := 11) (Nat.le_of_ble_eq_true rfl) (Nat.le_of_ble_eq_true rfl) ?_
  refine lv_dup X.1 X.2.1 dL_law_3 rfl ?_
  refine z_I (n := 0) (As := []) (rest := [.ref q0]) (b := q0) (wc := [(q0, .inr (8, [.null, .null, .null, .null, .null, .null, .null, .null, .null, .int 0, .int 0]))]) (wr := []) X hK hN (kX8_init l D K q0 _ ) (bw_GL W1_8) rfl ⟨rfl, rfl⟩ W1_6 W1_2 W1_7 rfl (by decide +kernel) rfl ⟨Nat.le_of_ble_eq_true rfl, Nat.le_of_ble_eq_true rfl⟩ hP hD hS hA [0] [] (hP.sub [0] rfl) (hD.sub [0] (by decide) rfl) rfl rfl (by decide) (by decide) hl.1 rfl (Nat.le_of_ble_eq_true rfl) dL_law_4 ⟨Nat.le_of_ble_eq_true rfl, Nat.le_of_ble_eq_true rfl⟩ (fun g H1 locs1 hg hP1 hD1 hS1 => ?_)
  subst hg
  refine W.widen (k := 57) (n := 2542) (Nat.le_of_ble_eq_true rfl) (Nat.le_of_ble_eq_true rfl) ?_
  refine lv_astore_n (lv' := [(1, .ref (g 0 0)), (0, .ref b)]) X.1 X.2.1 dL_law_7 rfl hl (by decide) rfl (fun ls hl => ?_)
  have hP1 : va_P D vwCl (wbALL K g iZ iY) H1 := hP1
  have hD1 : va_D A (wbALL K g iZ iY) := hD1
  refine va_new (ci := 9) (fs := [.null, .null, .int 0, .null, .null, .null, .int 0, .null, .null, .int 0, .null, .int 0, .int 0, .int 0, .null, .int 0, .int 0, .int 0, .int 0, .int 0, .int 0, .int 0, .null, .null, .null, .null, .null, .null, .null, .int 0, .int 0, .null, .null, .null, .int 0, .null, .null, .null, .null, .null, .null, .null, .null, .int 0]) X.1 X.2.1 X.2.2.2.2 hiX9 tyX9 tyX9_ok X.2.2.2.1 (X.2.2.2.2 _ W1_3) (X.2.2.2.2 _ W1_4) (X.2.2.2.2 _ W1_5) hK hP1 hD1 hS1 hA rfl (fun j hj => by rcases (show j = 0 ∨ j = 1 ∨ j = 2 ∨ j = 3 ∨ j = 4 ∨ j = 5 ∨ j = 6 ∨ j = 7 ∨ j = 8 ∨ j = 9 ∨ j = 10 ∨ j = 11 ∨ j = 12 ∨ j = 13 ∨ j = 14 ∨ j = 15 ∨ j = 16 ∨ j = 17 ∨ j = 18 ∨ j = 19 ∨ j = 20 ∨ j = 21 ∨ j = 22 ∨ j = 23 ∨ j = 24 ∨ j = 25 ∨ j = 26 ∨ j = 27 ∨ j = 28 ∨ j = 29 ∨ j = 30 ∨ j = 31 ∨ j = 32 ∨ j = 33 ∨ j = 34 ∨ j = 35 ∨ j = 36 ∨ j = 37 ∨ j = 38 ∨ j = 39 ∨ j = 40 ∨ j = 41 ∨ j = 42 ∨ j = 43 by omega) with rfl | rfl | rfl | rfl | rfl | rfl | rfl | rfl | rfl | rfl | rfl | rfl | rfl | rfl | rfl | rfl | rfl | rfl | rfl | rfl | rfl | rfl | rfl | rfl | rfl | rfl | rfl | rfl | rfl | rfl | rfl | rfl | rfl | rfl | rfl | rfl | rfl | rfl | rfl | rfl | rfl | rfl | rfl | rfl <;> rfl) (Nat.le_of_ble_eq_true rfl) (Nat.le_of_ble_eq_true rfl) dL_law_8 (fun q9 H hP hD hS => ?_)
  refine W.widen (k := 58) (n := 2586) (Nat.le_of_ble_eq_true rfl) (Nat.le_of_ble_eq_true rfl) ?_
  refine lv_dup X.1 X.2.1 dL_law_11 rfl ?_
  have hM9 := kX9_init l D K q9 H.size
  refine z_IB (n := 0) (As := []) (rest := [.ref q9]) (b := q9) (wr := wbALL K g iZ iY) X hK hN hM9 (bw_GL W6_14) rfl ⟨rfl, rfl⟩ W6_12 W1_5 W6_13 rfl (by decide +kernel) rfl ⟨Nat.le_of_ble_eq_true rfl, Nat.le_of_ble_eq_true rfl⟩ hP hD hS hA hl.1 rfl (Nat.le_of_ble_eq_true rfl) dL_law_12 ⟨Nat.le_of_ble_eq_true rfl, Nat.le_of_ble_eq_true rfl⟩ (fun a9 H1 locs1 h9 hP1 hD1 hS1 => ?_)
  subst h9
  refine W.widen (k := 85) (n := 4963) (Nat.le_of_ble_eq_true rfl) (Nat.le_of_ble_eq_true rfl) ?_
  refine lv_astore_n (lv' := [(2, .ref (a9 0)), (1, .ref (g 0 0)), (0, .ref b)]) X.1 X.2.1 dL_law_15 rfl hl (by decide) rfl (fun ls hl => ?_)
  refine lv_iconst (v := 0) X.1 X.2.1 dL_law_16 (by decide) ?_
  refine lv_istore_n (lv' := [(3, .int 0), (2, .ref (a9 0)), (1, .ref (g 0 0)), (0, .ref b)]) X.1 X.2.1 dL_law_17 rfl hl (by decide) rfl (fun ls hl => ?_)
  exact law_loop X hr hlk hK hN hA hAs hX hbl hbA 600 0 iZ iY iX9 (hpure _ _ hL) H1 locs1 hP1 hD1 hS1 ls (lv_sub hl [3, 2, 1, 0] rfl)
