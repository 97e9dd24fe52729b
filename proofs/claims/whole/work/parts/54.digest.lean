/-! ===== digest ===== -/
theorem f_mix (h x : Int64) : fX8_mix h x = some ((31 : Int64) * h + x) := rfl
theorem g_44 {z : Nat → St} {y : Nat → Lt} {s : St} {q : Nat} (H : Fz z y s) (hq : q < nrS s) (rc : Int64 → Int32 → (Nat → St) → Option (Int64 × (Nat → St))) : ∀ (m k N : Nat) (h : Int64) (u : St), m + k = 3 → m < N → Dur s u → ∃ h' u', fX8_mixRiders_44 y rc N h (nI q) (nI k) z = rc h' (nI (q + 1)) z ∧ fX9_riderDigest_38 N (nI q) h (nI k) u = some (h', u') ∧ Dur s u' ∧ Rdd u' s
  | 0, k, N, h, u, e, hN, D => by
    obtain ⟨N, rfl⟩ : ∃ M, N = M + 1 := ⟨N - 1, by omega⟩
    have ek : k = 3 := by omega
    obtain ⟨v1, u1, a1, a2, a3, a4⟩ := l_knows (k := 0) H D hq (by omega)
    obtain ⟨v2, u2, b1, b2, b3, b4⟩ := l_knows (k := 1) H a3 hq (by omega)
    have a1' : fX8_knows z y (nI q) 0 = _ := a1
    have a2' : fX9_knowsOf u (nI q) 0 = _ := a2
    have b1' : fX8_knows z y (nI q) 1 = _ := b1
    have b2' : fX9_knowsOf u1 (nI q) 1 = _ := b2
    rw [ek, fX8_mixRiders_44, fX9_riderDigest_38, if_pos (show (3 : Int32) ≤ nI 3 by decide), if_pos (show (3 : Int32) ≤ nI 3 by decide), a1', bd2_s, f_mix, bd1_s, b1', bd2_s, f_mix, bd1_s, stp_n, nI_1, a2', bd2_s, stp_n, b2', bd2_s]
    exact ⟨_, u2, rfl, rfl, b3, b4⟩
  | m + 1, k, N, h, u, e, hN, D => by
    obtain ⟨N, rfl⟩ : ∃ M, N = M + 1 := ⟨N - 1, by omega⟩
    obtain ⟨v, u1, a1, a2, a3, a4⟩ := l_rides (k := k) H D hq (by omega)
    have c3 : ¬ (3 : Int32) ≤ nI k := nI_ge (b := 3) (by omega) (by decide)
    rw [fX8_mixRiders_44, fX9_riderDigest_38, if_neg c3, if_neg c3, a1, bd2_s, f_mix, bd1_s, stp_n, nI_1, a2, bd2_s, stp_n, stp_n]
    exact g_44 H hq rc m (k + 1) N _ u1 (by omega) (by omega) a3
theorem g_16 {z : Nat → St} {y : Nat → Lt} {s u : St} {q : Nat} (H : Fz z y s) (hq : q < nrS s) (D : Dur s u) (R : Rdd u s) (rc : Int64 → Int32 → (Nat → St) → Option (Int64 × (Nat → St))) : ∀ (m k N : Nat) (h : Int64), m + k = 3 → m < N → ∃ h' u', fX8_mixRiders_16 y rc N h (nI q) (nI k) z = rc h' (nI (q + 1)) z ∧ fX9_riderDigest_6 N (nI q) h (nI k) u = some (h', u') ∧ Dur s u' ∧ Rdd u' s
  | 0, k, N, h, e, hN => by
    obtain ⟨N, rfl⟩ : ∃ M, N = M + 1 := ⟨N - 1, by omega⟩
    have ek : k = 3 := by omega
    rw [ek, fX8_mixRiders_16, fX9_riderDigest_6, if_pos (show (3 : Int32) ≤ nI 3 by decide), if_pos (show (3 : Int32) ≤ nI 3 by decide)]
    exact g_44 H hq rc 3 0 300 h u (by omega) (by omega) D
  | m + 1, k, N, h, e, hN => by
    obtain ⟨N, rfl⟩ : ∃ M, N = M + 1 := ⟨N - 1, by omega⟩
    obtain ⟨v, a1, a2⟩ := l_rider (k := k) H R hq (by omega)
    have c3 : ¬ (3 : Int32) ≤ nI k := nI_ge (b := 3) (by omega) (by decide)
    rw [fX8_mixRiders_16, fX9_riderDigest_6, if_neg c3, if_neg c3, a1, bd2_s, f_mix, bd1_s, stp_n, nI_1, a2, bd1_s, stp_n, stp_n]
    exact g_16 H hq D R rc m (k + 1) N _ (by omega) (by omega)
theorem g_riders {z : Nat → St} {y : Nat → Lt} {s : St} (H : Fz z y s) : ∀ (m q N : Nat) (h : Int64) (u : St), m + q = nrS s → m < N → Dur s u → Rdd u s → ∃ h' u', fX8_mixRiders_2 y N h (nI q) z = some (h', z) ∧ fX9_digest_59 N h (nI q) u = fX9_digest_82 300 h' 0 u' ∧ Dur s u' ∧ Rdd u' s
  | 0, q, N, h, u, e, hN, D, R => by
    obtain ⟨N, rfl⟩ : ∃ M, N = M + 1 := ⟨N - 1, by omega⟩
    have n8 := nrS_8 H.1.1.1
    have c : nI (nrS s) ≤ nI q := nI_le (by omega) (by omega)
    rw [fX8_mixRiders_2, fX9_digest_59, H.2.1.1.1.1, R.1, if_pos c, if_pos c]
    exact ⟨h, u, rfl, rfl, D, R⟩
  | m + 1, q, N, h, u, e, hN, D, R => by
    obtain ⟨N, rfl⟩ : ∃ M, N = M + 1 := ⟨N - 1, by omega⟩
    have n8 := nrS_8 H.1.1.1
    have c : ¬ nI (nrS s) ≤ nI q := nI_ge (by omega) (by omega)
    obtain ⟨h1, u1, a1, a2, a3, a4⟩ := g_16 H (show q < nrS s by omega) D R (fX8_mixRiders_2 y N) 3 0 300 h (by omega) (by omega)
    have a2' : fX9_riderDigest u h (nI q) = _ := a2
    have a1' : fX8_mixRiders_16 y (fX8_mixRiders_2 y N) 300 h (nI q) 0 z = _ := a1
    rw [fX8_mixRiders_2, fX9_digest_59, H.2.1.1.1.1, R.1, if_neg c, if_neg c, a1', a2', bd2_s, stp_n, nI_1]
    exact g_riders H m (q + 1) N h1 u1 (by omega) (by omega) a3 a4
theorem g_leavers {y : Nat → Lt} {s : St} : ∀ (m l N : Nat) (h : Int64) (z : Nat → St) (u : St), m + l = nlS s → m < N → Fz z y s → Dur s u → Rdd u s → ∃ h' z' u', fX8_mixLeavers_2 y N h (nI l) z = some (h', z') ∧ fX9_digest_82 N h (nI l) u = fX9_digest_139 300 h' 0 u' ∧ Fz z' y s ∧ Dur s u' ∧ Rdd u' s
  | 0, l, N, h, z, u, e, hN, H, D, R => by
    obtain ⟨N, rfl⟩ : ∃ M, N = M + 1 := ⟨N - 1, by omega⟩
    have n8 := nlS_8 H.1.1.1
    have c : nI (nlS s) ≤ nI l := nI_le (by omega) (by omega)
    rw [fX8_mixLeavers_2, fX9_digest_82, H.2.1.1.1.2.1, R.2.1, if_pos c, if_pos c]
    exact ⟨h, z, u, rfl, rfl, H, D, R⟩
  | m + 1, l, N, h, z, u, e, hN, H, D, R => by
    obtain ⟨N, rfl⟩ : ∃ M, N = M + 1 := ⟨N - 1, by omega⟩
    have n8 := nlS_8 H.1.1.1
    have c : ¬ nI (nlS s) ≤ nI l := nI_ge (by omega) (by omega)
    obtain ⟨a1, a2⟩ := l_leaver H R (show l < nlS s by omega)
    obtain ⟨v, z1, u1, b1, b2, b3, b4, b5⟩ := l_who H D (show l < nlS s by omega)
    rw [fX8_mixLeavers_2, fX9_digest_82, H.2.1.1.1.2.1, R.2.1, if_neg c, if_neg c, a1, bd2_s, f_mix, bd1_s, a2, bd2_s, f_mix, bd1_s, b1, bd2_s, f_mix, bd1_s, stp_n, nI_1, rd_nI rfl (show l < 9 by omega) (by decide), stp_n, rd_nI rfl (show l < 9 by omega) (by decide), stp_n, b2, bd2_s, stp_n, stp_n]
    exact g_leavers m (l + 1) N _ z1 u1 (by omega) (by omega) b3 b4 b5
theorem g_stops {z : Nat → St} {y : Nat → Lt} {s u : St} (H : Fz z y s) (R : Rdd u s) : ∀ (m k N : Nat) (h : Int64), m + k = nsS s → m < N → ∃ h', fX8_mixStops_2 y N h (nI k) z = some (h', z) ∧ fX9_digest_139 N h (nI k) u = fX9_digest_139 1 h' (nI (nsS s)) u
  | 0, k, N, h, e, hN => by
    obtain ⟨N, rfl⟩ : ∃ M, N = M + 1 := ⟨N - 1, by omega⟩
    have n20 := nsS_20 H.1.1.1
    have ek : k = nsS s := by omega
    have c : nI (nsS s) ≤ nI (nsS s) := nI_le (Nat.le_refl _) (by omega)
    refine ⟨h, ?_, ?_⟩
    · rw [ek, fX8_mixStops_2, H.2.1.1.1.2.2, if_pos c]
    · rw [ek, fX9_digest_139, fX9_digest_139, R.2.2.1, if_pos c, if_pos c]
  | m + 1, k, N, h, e, hN => by
    obtain ⟨N, rfl⟩ : ∃ M, N = M + 1 := ⟨N - 1, by omega⟩
    have n20 := nsS_20 H.1.1.1
    have c : ¬ nI (nsS s) ≤ nI k := nI_ge (by omega) (by omega)
    have a1 := l_stop H R (show k < nsS s by omega)
    have ih := g_stops H R m (k + 1) N ((31 : Int64) * h + (u 11 k).toInt64) (by omega) (by omega)
    obtain ⟨h', b1, b2⟩ := ih
    refine ⟨h', ?_, ?_⟩
    · rw [fX8_mixStops_2, H.2.1.1.1.2.2, if_neg c, a1, bd2_s, f_mix, bd1_s, stp_n, nI_1]
      exact b1
    · rw [fX9_digest_139, R.2.2.1, if_neg c, rd_nI rfl (show k < 20 by omega) (by decide), stp_n, stp_n, nI_1]
      exact b2
theorem g_27 {z : Nat → St} {y : Nat → Lt} {s : St} {T i : Nat} (H : Fz z y s) (hT : T ≤ 255) (rc : Int64 → Int32 → Int32 → (Nat → St) → Option (Int64 × (Nat → St))) : ∀ (m k N : Nat) (h : Int64) (u : St), m + k = 4 → m < N → Dur s u → ∃ h' u', fX8_mixSteps_27 y rc N h 4 (nI i) (nI T) (nI k) z = rc h' 4 (nI (i + 1)) z ∧ fX9_stepsDigest_6 N (nI T) h (nI k) u = some (h', u') ∧ Dur s u'
  | 0, k, N, h, u, e, hN, D => by
    obtain ⟨N, rfl⟩ : ∃ M, N = M + 1 := ⟨N - 1, by omega⟩
    have ek : k = 4 := by omega
    obtain ⟨v, u1, a1, a2, a3⟩ := l_arrived H D hT
    rw [ek, fX8_mixSteps_27, fX9_stepsDigest_6, if_pos (show (4 : Int32) ≤ nI 4 by decide), if_pos (show (4 : Int32) ≤ nI 4 by decide), a1, bd2_s, f_mix, bd1_s, stp_n, nI_1, a2, bd2_s]
    exact ⟨_, u1, rfl, rfl, a3⟩
  | m + 1, k, N, h, u, e, hN, D => by
    obtain ⟨N, rfl⟩ : ∃ M, N = M + 1 := ⟨N - 1, by omega⟩
    obtain ⟨v, u1, a1, a2, a3⟩ := l_lift (k := k) H D hT (by omega)
    have c4 : ¬ (4 : Int32) ≤ nI k := nI_ge (b := 4) (by omega) (by decide)
    rw [fX8_mixSteps_27, fX9_stepsDigest_6, if_neg c4, if_neg c4, a1, bd2_s, f_mix, bd1_s, stp_n, nI_1, a2, bd2_s, stp_n, stp_n]
    exact g_27 H hT rc m (k + 1) N _ u1 (by omega) (by omega) a3
theorem g_11 {z : Nat → St} {y : Nat → Lt} {s u : St} {i T N : Nat} (H : Fz z y s) (hi : i < 4) (hT : T ≤ 255) (ed : dstep i = nI T) (D : Dur s u) (h : Int64) : ∃ h' u', fX8_mixSteps_11 y (N + 1) h 4 (nI i) z = fX8_mixSteps_11 y N h' 4 (nI (i + 1)) z ∧ fX9_stepsDigest u h (nI T) = some (h', u') ∧ Dur s u' := by
  obtain ⟨h', u', a1, a2, a3⟩ := g_27 (i := i) H hT (fX8_mixSteps_11 y N) 4 0 300 h u (by omega) (by omega) D
  refine ⟨h', u', ?_, a2, a3⟩
  rw [fX8_mixSteps_11, if_neg (show ¬ (4 : Int32) ≤ nI i from nI_ge (b := 4) hi (by decide)), chk_nI hi (by decide), stp_n, ix_nI (by omega), ed]
  exact a1
theorem g_steps {z : Nat → St} {y : Nat → Lt} {s u : St} (H : Fz z y s) (D : Dur s u) (h : Int64) : ∃ h1 h2 h3 h4 u1 u2 u3 u4, fX8_mixSteps z y h = some (h4, z) ∧ fX9_stepsDigest u h 0 = some (h1, u1) ∧ fX9_stepsDigest u1 h1 9 = some (h2, u2) ∧ fX9_stepsDigest u2 h2 20 = some (h3, u3) ∧ fX9_stepsDigest u3 h3 60 = some (h4, u4) ∧ Dur s u4 := by
  obtain ⟨h1, u1, a1, a2, a3⟩ := g_11 (i := 0) (T := 0) (N := 299) H (by decide) (by decide) rfl D h
  obtain ⟨h2, u2, b1, b2, b3⟩ := g_11 (i := 1) (T := 9) (N := 298) H (by decide) (by decide) rfl a3 h1
  obtain ⟨h3, u3, c1, c2, c3⟩ := g_11 (i := 2) (T := 20) (N := 297) H (by decide) (by decide) rfl b3 h2
  obtain ⟨h4, u4, d1, d2, d3⟩ := g_11 (i := 3) (T := 60) (N := 296) H (by decide) (by decide) rfl c3 h3
  refine ⟨h1, h2, h3, h4, u1, u2, u3, u4, ?_, a2, b2, c2, d2, d3⟩
  unfold fX8_mixSteps
  refine Eq.trans a1 (Eq.trans b1 (Eq.trans c1 (Eq.trans d1 ?_)))
  rw [fX8_mixSteps_11, if_pos (show (4 : Int32) ≤ nI (3 + 1) by decide)]
theorem g_31 {z : Nat → St} {y : Nat → Lt} {s : St} (H : Fz z y s) : ∀ (m κ N : Nat) (h : Int64) (u : St), m + κ = 3 → m < N → Dur s u → (0 < κ → Rdd u s) → ∃ h' z' y' u', fX8_digest_31 N h (nI κ) z y = some (h', z', y') ∧ fX9_digest_33 N h (nI κ) u = some (h', u') ∧ Fz z' y' s ∧ Dur s u'
  | 0, κ, N, h, u, e, hN, D, R => by
    obtain ⟨N, rfl⟩ : ∃ M, N = M + 1 := ⟨N - 1, by omega⟩
    have ek : κ = 3 := by omega
    have n8 := nrS_8 H.1.1.1
    have l8 := nlS_8 H.1.1.1
    have n20 := nsS_20 H.1.1.1
    obtain ⟨h1, u1, a1, a2, a3, a4⟩ := g_riders H (nrS s) 0 300 h u (by omega) (by omega) D (R (by omega))
    obtain ⟨h2, z2, u2, b1, b2, b3, b4, b5⟩ := g_leavers (nlS s) 0 300 h1 z u1 (by omega) (by omega) H a3 a4
    obtain ⟨h3, c1, c2⟩ := g_stops b3 b5 (nsS s) 0 300 h2 (by omega) (by omega)
    obtain ⟨k1, k2, k3, h4, w1, w2, w3, u4, d1, d2, d3, d4, d5, d6⟩ := g_steps b3 b4 h3
    obtain ⟨v5, u5, e1, e2, e3⟩ := l_ends b3 d6
    obtain ⟨v6, u6, f1, f2, f3⟩ := l_full (k := 0) b3 e3 (by decide)
    obtain ⟨v7, u7, g1, g2, g3⟩ := l_full (k := 1) b3 f3 (by decide)
    obtain ⟨v8, v9, z8, z9, u9, m1, m2, m3, m4, m5, m6⟩ := l_more b3 g3
    obtain ⟨v10, z10, u10, n1, n2, n3, n4⟩ := l_never m5 m6
    obtain ⟨v11, z11, u11, o1, o2, o3, o4⟩ := l_weigh n3 n4
    obtain ⟨v12, z12, y12, u12, p1, p2, p3, p4⟩ := l_leave o3 o4 (x := -1) (Or.inl rfl)
    obtain ⟨v13, z13, y13, u13, q1, q2, q3, q4⟩ := l_leave p3 p4 (x := 0) (Or.inr rfl)
    obtain ⟨v14, z14, y14, u14, r1, r2, r3, r4⟩ := l_maybe (k := 0) q3 q4 (by decide)
    obtain ⟨v15, z15, y15, u15, s1, s2, s3, s4⟩ := l_maybe (k := 1) r3 r4 (by decide)
    obtain ⟨v16, z16, u16, t1, t2, t3, t4⟩ := l_day (k := 0) s3 s4 (by decide)
    obtain ⟨v17, z17, u17, x1, x2, x3, x4⟩ := l_day (k := 1) t3 t4 (by decide)
    have a1' : fX8_mixRiders z y h = _ := a1
    have b1' : fX8_mixLeavers z y h1 = _ := b1
    have c1' : fX8_mixStops z2 y h2 = _ := c1
    have f1' : fX8_full z2 y 0 = _ := f1
    have g1' : fX8_full z2 y 1 = _ := g1
    have f2' : fX9_fullOf u5 0 = _ := f2
    have g2' : fX9_fullOf u6 1 = _ := g2
    have r1' : fX8_maybe z13 y13 5 0 20 0 = _ := r1
    have r2' : fX9_maybe u13 5 0 20 0 = _ := r2
    have s1' : fX8_maybe z14 y14 5 0 20 1 = _ := s1
    have s2' : fX9_maybe u14 5 0 20 1 = _ := s2
    have t1' : fX8_day z15 y15 7 12 0 = _ := t1
    have t2' : fX9_dayOf u15 7 12 0 = _ := t2
    have x1' : fX8_day z16 y15 7 12 1 = _ := x1
    have x2' : fX9_dayOf u16 7 12 1 = _ := x2
    have a2' : fX9_digest_59 300 h 0 u = fX9_digest_82 300 h1 0 u1 := a2
    have b2' : fX9_digest_82 300 h1 0 u1 = fX9_digest_139 300 h2 0 u2 := b2
    have c2' : fX9_digest_139 300 h2 0 u2 = fX9_digest_139 1 h3 (nI (nsS s)) u2 := c2
    rw [ek, fX8_digest_31, fX9_digest_33, if_pos (show (3 : Int32) ≤ nI 3 by decide), if_pos (show (3 : Int32) ≤ nI 3 by decide), a2', b2', c2', fX9_digest_139, b5.2.2.1, if_pos (nI_le (Nat.le_refl _) (by omega))]
    rw [a1', bd2_s, b1', bd2_s, c1', bd2_s, d1, bd2_s, e1, bd2_s, f_mix, bd1_s, f1', bd2_s, f_mix, bd1_s, g1', bd2_s, f_mix, bd1_s, m1, bd2_s, f_mix, bd1_s, m2, bd2_s, f_mix, bd1_s, n1, bd2_s, f_mix, bd1_s, o1, bd2_s, f_mix, bd1_s, p1, bd3_s, f_mix, bd1_s, q1, bd3_s, f_mix, bd1_s, r1', bd3_s, f_mix, bd1_s, s1', bd3_s, f_mix, bd1_s, t1', bd2_s, f_mix, bd1_s, x1', bd2_s, f_mix, bd1_s]
    rw [d2, bd2_s, d3, bd2_s, d4, bd2_s, d5, bd2_s, e2, bd2_s, stp_n, f2', bd2_s, stp_n, g2', bd2_s, stp_n, m3, bd2_s, stp_n, m4, bd1_s, stp_n, n2, bd2_s, stp_n, o2, bd2_s, stp_n, p2, bd2_s, stp_n, q2, bd2_s, stp_n, r2', bd2_s, stp_n, s2', bd2_s, stp_n, t2', bd2_s, stp_n, x2', bd2_s]
    exact ⟨_, z17, y15, u17, rfl, rfl, x3, x4⟩
  | m + 1, κ, N, h, u, e, hN, D, R => by
    obtain ⟨N, rfl⟩ : ∃ M, N = M + 1 := ⟨N - 1, by omega⟩
    obtain ⟨v, u1, a1, a2, a3, a4⟩ := l_fault H D (show κ < 3 by omega)
    have c3 : ¬ (3 : Int32) ≤ nI κ := nI_ge (b := 3) (by omega) (by decide)
    rw [fX8_digest_31, fX9_digest_33, if_neg c3, if_neg c3, a1, bd1_s, f_mix, bd1_s, stp_n, nI_1, a2, bd2_s, stp_n, stp_n]
    exact g_31 H m (κ + 1) N _ u1 (by omega) (by omega) a3 (fun _ => a4)
theorem g_6 {z : Nat → St} {y : Nat → Lt} {s : St} (H : Fz z y s) : ∀ (m k N : Nat) (h : Int64) (u : St), m + k = 8 → m < N → Dur s u → ∃ h' z' y' u', fX8_digest_6 N h (nI k) z y = some (h', z', y') ∧ fX9_digest_6 N h (nI k) u = some (h', u') ∧ Fz z' y' s ∧ Dur s u'
  | 0, k, N, h, u, e, hN, D => by
    obtain ⟨N, rfl⟩ : ∃ M, N = M + 1 := ⟨N - 1, by omega⟩
    have ek : k = 8 := by omega
    rw [ek, fX8_digest_6, fX9_digest_6, if_pos (show (8 : Int32) ≤ nI 8 by decide), if_pos (show (8 : Int32) ≤ nI 8 by decide)]
    exact g_31 H 3 0 300 h u (by omega) (by omega) D (fun c => absurd c (by omega))
  | m + 1, k, N, h, u, e, hN, D => by
    obtain ⟨N, rfl⟩ : ∃ M, N = M + 1 := ⟨N - 1, by omega⟩
    obtain ⟨v, u1, a1, a2, a3⟩ := l_count H D (show k < 8 by omega)
    have c8 : ¬ (8 : Int32) ≤ nI k := nI_ge (b := 8) (by omega) (by decide)
    rw [fX8_digest_6, fX9_digest_6, if_neg c8, if_neg c8, a1, bd2_s, f_mix, bd1_s, stp_n, nI_1, a2, bd2_s, stp_n, stp_n]
    exact g_6 H m (k + 1) N _ u1 (by omega) (by omega) a3
theorem c_digest {z : Nat → St} {y : Nat → Lt} {s : St} (H : Rel z y s) : AnsL (fX8_digest z y) (fX9_digest s) := by
  obtain ⟨z', a1, a2, a3, a4⟩ := f_freshen H
  have Hz : Fz z' y s := ⟨a2, a3, a4⟩
  have ec : fX8_count z y 0 = fX8_count z' y 0 := by
    unfold fX8_count
    rw [a1, fr0 Hz]
    rfl
  have ed : fX8_digest z y = fX8_digest z' y := by
    unfold fX8_digest
    rw [fX8_digest_6, fX8_digest_6, if_neg (by decide), if_neg (by decide), ec]
  obtain ⟨h', z2, y2, u2, b1, b2, b3, b4⟩ := g_6 Hz 8 0 300 17 s (by omega) (by omega) Dur.rf
  rw [ed]
  exact ⟨h', z2, y2, u2, b1, b2, Rel_d b4 b3.1⟩
