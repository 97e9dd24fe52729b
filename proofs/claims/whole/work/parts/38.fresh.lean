/-! ===== freshen ===== -/
theorem f_freshen {z : Nat → St} {y : Nat → Lt} {s : St} (H : Rel z y s) : ∃ z', fX8_freshen z y = some z' ∧ Rel z' y s ∧ Fsh z' y s ∧ z' 0 0 10 = 0 := by
  obtain ⟨h1, h2, h3, h4, h5, h6, h7, h8⟩ := id H
  rcases h8 with h8 | ⟨h8, h9⟩
  · obtain ⟨hk, hT⟩ := h1
    obtain ⟨A, a1, a2, a3, a4, a5⟩ := f_takeRiders (h := z 8) (hT 0 (by decide))
    obtain ⟨B, b1, b2, b3, b4, b5⟩ := f_takeLeavers (h := A) (hT 1 (by decide))
    obtain ⟨C, c1, c2, c3, c4, c5⟩ := f_takeStops (h := B) (hT 2 (by decide))
    have o : ∀ c, c ≠ 0 → c ≠ 10 → c ≠ 11 → c ≠ 12 → C c = A c := fun c n0 n10 n11 n12 => by rw [c4 c n0 n12, b4 c n0 n10 n11]
    have i0 : ∀ i, i ≠ 3 → i ≠ 4 → C 0 i = A 0 i := fun i n3 n4 => by rw [c5 i n4, b5 i n3]
    have hH : HsT C s := by
      refine ⟨⟨?_, ?_, c3⟩, fun k hk2 => ?_, fun l hl => ?_, c2, fun f k hf hk2 => ?_, fun k hk2 => ?_⟩
      · rw [i0 2 (by decide) (by decide)]; exact a3
      · rw [c5 3 (by decide)]; exact b3
      · rw [o 7 (by decide) (by decide) (by decide) (by decide), o 8 (by decide) (by decide) (by decide) (by decide), o 9 (by decide) (by decide) (by decide) (by decide)]
        exact a2.1 k hk2
      · rw [c4 10 (by decide) (by decide), c4 11 (by decide) (by decide)]
        exact b2 l hl
      · rw [o 13 (by decide) (by decide) (by decide) (by decide), o 14 (by decide) (by decide) (by decide) (by decide)]
        exact a2.2.1 f k hf hk2
      · rw [i0 5 (by decide) (by decide)]
        exact a2.2.2 k hk2
    have hS : Sts C s := by
      unfold Sts
      rw [i0 0 (by decide) (by decide), i0 1 (by decide) (by decide), a5 0 (by decide) (by decide), a5 1 (by decide) (by decide)]
      exact h2
    obtain ⟨r1, r, d1, d2, d3, d4⟩ := ride_told (r0 := z 9) hk hS hH (allM (nlS s)) (-1) (-1) h6
    have dl : fX2_allLeavers C = some (allM (nlS s)) := by
      unfold fX2_allLeavers
      rw [hH.1.2.1]
      rfl
    refine ⟨va_up (va_up (va_up (va_up (va_up (va_up (va_up (va_up z 0 (sS (z 0) 0 10 0)) 8 A) 8 B) 8 C) 9 r1) 9 r) 11 (sS (sS (z 11) 0 2 0) 0 6 0)) 12 (sS (z 12) 0 2 0), ?_, ?_, ?_, rfl⟩
    · unfold fX8_freshen
      rw [h8, if_neg (by decide), stp_n, show fX2_takeRiders (va_up z 0 (sS (z 0) 0 10 0) 8) (va_up z 0 (sS (z 0) 0 10 0) 1) = some A from a1, bd1_s, stp_n]
      rw [show fX2_takeLeavers (va_up (va_up z 0 (sS (z 0) 0 10 0)) 8 A 8) (va_up (va_up z 0 (sS (z 0) 0 10 0)) 8 A 2) = some B from b1, bd1_s, stp_n]
      rw [show fX2_takeStops (va_up (va_up (va_up z 0 (sS (z 0) 0 10 0)) 8 A) 8 B 8) (va_up (va_up (va_up z 0 (sS (z 0) 0 10 0)) 8 A) 8 B 3) = some C from c1, bd1_s, stp_n]
      generalize hz13 : va_up (va_up (va_up (va_up z 0 (sS (z 0) 0 10 0)) 8 A) 8 B) 8 C = z13
      have g8 : z13 8 = C := by rw [← hz13]; rfl
      have g9 : z13 9 = z 9 := by rw [← hz13]; rfl
      have g11 : z13 11 = z 11 := by rw [← hz13]; rfl
      have g12 : z13 12 = z 12 := by rw [← hz13]; rfl
      rw [g8, dl, bd1_s, g9, d1, bd1_s, stp_n]
      rw [show fX4_goToStops (va_up z13 9 r1 8) (va_up z13 9 r1 9) (-1) (-1) = some r by
        rw [show va_up z13 9 r1 8 = z13 8 from rfl, g8]; exact d2, bd1_s, stp_n]
      unfold fX3_outdate fX0_outdate
      rw [stp_n, stp_n, bd1_s, stp_n, stp_n, bd1_s, stp_n]
      have e11 : va_up (va_up z13 9 r1) 9 r 11 = z 11 := g11
      rw [e11]
      have e12 : va_up (va_up (va_up z13 9 r1) 9 r) 11 (sS (sS (z 11) 0 2 0) 0 6 0) 12 = z 12 := g12
      rw [e12]
    · refine ⟨⟨hk, fun κ hκ => ?_⟩, hS, h3, fun o ho => ?_, h5, d3, h7, Or.inr ⟨rfl, hH, d4, Or.inl rfl, ⟨0, by omega, rfl, fun w hw => absurd hw (by omega)⟩, Or.inl rfl⟩⟩
      · have := hT κ hκ
        rw [up_o (by omega), up_o (by omega), up_o (by omega), up_o (by omega), up_o (by omega), up_o (by omega), up_o (by omega), up_o (by omega)]
        exact this
      · have := h4 o ho
        rw [up_o (by omega), up_o (by omega), up_o (by omega), up_o (by omega), up_o (by omega), up_o (by omega), up_o (by omega), up_o (by omega)]
        exact this
    · exact ⟨hH, d4, Or.inl rfl, ⟨0, by omega, rfl, fun w hw => absurd hw (by omega)⟩, Or.inl rfl⟩
  · refine ⟨z, ?_, H, h9, h8⟩
    unfold fX8_freshen
    rw [if_pos h8]
/-! ===== the ride as told ===== -/
theorem bt_255k {k : Nat} (h : k < 8) : bt 255 k = true := by rw [bt_255 (by omega)]; simp [h]
theorem Sts_d {h s u : St} (D : Dtx s u) (H : Sts h s) : Sts h u := by unfold Sts; rw [D.2.2.1, D.2.2.2]; exact H
theorem Rdy_told {h s t : St} (hk : Tok s) (hs : Sts h t) (hT : Tld t s) : Rdy h s t (allM (nlS s)) (wyT s (-1) (-1)) := by
  have l8 := nlS_8 hk
  refine ⟨hT.1, hs, fun k hk2 => ?_, Way_told hk hT⟩
  rw [hT.2.2.2, bt_255k (by omega), bt_allM l8 (by omega)]
  simp [hk2]
theorem Rdd_frm {t t' s : St} (F : Frm t t') (h : Rdd t s) : Rdd t' s := by
  unfold Rdd
  rw [F.2 2 (by decide) (by decide) (by decide) (by decide) (by decide) (by decide) (by decide) (by decide), F.2 6 (by decide) (by decide) (by decide) (by decide) (by decide) (by decide) (by decide) (by decide), F.2 9 (by decide) (by decide) (by decide) (by decide) (by decide) (by decide) (by decide) (by decide), F.1 4 (by decide) (by decide) (by decide) (by decide) (by decide) (by decide) (by decide) (by decide) (by decide) (by decide), F.1 5 (by decide) (by decide) (by decide) (by decide) (by decide) (by decide) (by decide) (by decide) (by decide) (by decide), F.1 6 (by decide) (by decide) (by decide) (by decide) (by decide) (by decide) (by decide) (by decide) (by decide) (by decide), F.1 8 (by decide) (by decide) (by decide) (by decide) (by decide) (by decide) (by decide) (by decide) (by decide) (by decide), F.1 9 (by decide) (by decide) (by decide) (by decide) (by decide) (by decide) (by decide) (by decide) (by decide) (by decide), F.1 11 (by decide) (by decide) (by decide) (by decide) (by decide) (by decide) (by decide) (by decide) (by decide) (by decide)]
  exact h
theorem told_run {z : Nat → St} {y : Nat → Lt} {s : St} (H : Rel z y s) (F : Fsh z y s) : ∃ t' hf j w fl, fX9_runsTold s = some t' ∧ Rid (z 8) (z 9) t' (nrS s) (nlS s) hf j w fl ∧ Dur s t' ∧ Rdd t' s := by
  obtain ⟨t, a1, a2, a3⟩ := f_asTold H.1.1
  obtain ⟨t', hf, j, w, fl, b1, b2, b3⟩ := F.2.1 t (Rdy_told H.1.1 (Sts_d a2.tx H.2.1) a3)
  refine ⟨t', hf, j, w, fl, ?_, b2, a2.tr b3.dur, Rdd_frm b3 a3.1⟩
  unfold fX9_runsTold
  rw [a1, bd1_s, b1, bd1_s]
/-! ===== numbers that a call brings ===== -/
theorem rng (x : Int32) (N : Nat) (hN : N < 2 ^ 31) : (x < 0 ∨ nI N < x) ∨ ∃ T, T ≤ N ∧ x = nI T := by
  by_cases c : x < 0
  · exact Or.inl (Or.inl c)
  · obtain ⟨T, h1, h2⟩ := nI_of c
    by_cases d : T ≤ N
    · exact Or.inr ⟨T, d, h2⟩
    · refine Or.inl (Or.inr ?_)
      rw [h2, nI_lt' hN h1]; omega
theorem f_in (x a b : Int32) : fX9_in x a b = some (if x < a ∨ b < x then 0 else 1) := by
  unfold fX9_in
  by_cases c : x < a
  · rw [if_pos c, if_pos (Or.inl c)]
  · rw [if_neg c]
    by_cases d : b < x
    · rw [if_pos d, if_pos (Or.inr d)]
    · rw [if_neg d, if_neg (by rintro (z | z); exact c z; exact d z)]
theorem in_out {x a b : Int32} (h : x < a ∨ b < x) : fX9_in x a b = some 0 := by rw [f_in, if_pos h]
theorem in_in {T N : Nat} (h : T ≤ N) (hN : N < 2 ^ 31) {b : Int32} (hb : b = nI N) : fX9_in (nI T) 0 b = some 1 := by
  rw [f_in, hb, if_neg]
  rintro (z | z)
  · exact nI_pos (by omega) z
  · rw [nI_lt' (by omega) (by omega)] at z; omega
theorem i_le {x b : Int32} (h : b < x) : ¬ x ≤ b := fun z => absurd h (Int32.not_lt.mpr z)
theorem isSteps_out {x : Int32} (h : x < 0 ∨ nI 255 < x) : fX9_isSteps x = some 0 := by
  unfold fX9_isSteps
  rw [show fX9_in x 0 255 = some 0 from in_out h, bd1_s]; rfl
theorem isSteps_in {T : Nat} (h : T ≤ 255) : fX9_isSteps (nI T) = some 1 := by
  unfold fX9_isSteps
  rw [in_in (b := 255) h (by decide) rfl, bd1_s]; rfl
theorem noStep_out {x : Int32} (h : x < 0 ∨ nI 255 < x) : fX8_noSuchStep x = some 1 := by
  unfold fX8_noSuchStep
  rcases h with h | h
  · rw [if_pos h]
  · by_cases c : x < 0
    · rw [if_pos c]
    · rw [if_neg c, if_neg (show ¬ x ≤ 255 from i_le h)]
theorem noStep_in {T : Nat} (h : T ≤ 255) : fX8_noSuchStep (nI T) = some 0 := by
  unfold fX8_noSuchStep
  rw [if_neg (nI_pos (by omega)), if_pos (by rw [show (255 : Int32) = nI 255 from rfl, nI_le' (by omega) (by omega)]; exact h)]
/-- a row of numbers below n -/
theorem noRider_out {z : Nat → St} {y : Nat → Lt} {n : Nat} {x : Int32} (hn : n ≤ 8) (h2 : z 8 0 2 = nI n) (h : x < 0 ∨ nI n ≤ x) : fX8_noSuchRider z y x = some 1 := by
  unfold fX8_noSuchRider
  rw [h2]
  rcases h with h | h
  · rw [if_pos h]
  · by_cases c : x < 0
    · rw [if_pos c]
    · rw [if_neg c, if_neg (Int32.not_lt.mpr h)]
theorem noRider_in {z : Nat → St} {y : Nat → Lt} {n q : Nat} (hn : n ≤ 8) (h2 : z 8 0 2 = nI n) (h : q < n) : fX8_noSuchRider z y (nI q) = some 0 := by
  unfold fX8_noSuchRider
  rw [h2, if_neg (nI_pos (by omega)), if_pos (by rw [nI_lt' (by omega) (by omega)]; exact h)]
theorem noLeaver_out {z : Nat → St} {y : Nat → Lt} {n : Nat} {x : Int32} (hn : n ≤ 8) (h2 : z 8 0 3 = nI n) (h : x < 0 ∨ nI n ≤ x) : fX8_noSuchLeaver z y x = some 1 := by
  unfold fX8_noSuchLeaver
  rw [h2]
  rcases h with h | h
  · rw [if_pos h]
  · by_cases c : x < 0
    · rw [if_pos c]
    · rw [if_neg c, if_neg (Int32.not_lt.mpr h)]
theorem noLeaver_in {z : Nat → St} {y : Nat → Lt} {n q : Nat} (hn : n ≤ 8) (h2 : z 8 0 3 = nI n) (h : q < n) : fX8_noSuchLeaver z y (nI q) = some 0 := by
  unfold fX8_noSuchLeaver
  rw [h2, if_neg (nI_pos (by omega)), if_pos (by rw [nI_lt' (by omega) (by omega)]; exact h)]
theorem rng2 (x : Int32) (n : Nat) (hn : n < 2 ^ 31) : (x < 0 ∨ nI n ≤ x) ∨ ∃ q, q < n ∧ x = nI q := by
  by_cases c : x < 0
  · exact Or.inl (Or.inl c)
  · obtain ⟨T, h1, h2⟩ := nI_of c
    by_cases d : T < n
    · exact Or.inr ⟨T, d, h2⟩
    · refine Or.inl (Or.inr ?_)
      rw [h2, nI_le' hn h1]; omega
theorem in_out2 {x : Int32} {n : Nat} (hn : n < 2 ^ 31) (h : x < 0 ∨ nI n ≤ x) : fX9_in x 0 (nI n - 1) = some 0 := by
  apply in_out
  rcases h with h | h
  · exact Or.inl h
  · by_cases c : x < 0
    · exact Or.inl c
    · obtain ⟨T, h1, h2⟩ := nI_of c
      right
      rw [h2] at h ⊢
      rw [nI_le' hn h1] at h
      cases n with
      | zero =>
        have e : nI 0 - 1 < 0 := by decide
        have : (0 : Int32) ≤ nI T := nI_pos' h1
        exact Int32.lt_of_lt_of_le e this
      | succ n => rw [nI_p, nI_lt' (by omega) h1]; omega
theorem in_in2 {q n : Nat} (hn : n < 2 ^ 31) (h : q < n) : fX9_in (nI q) 0 (nI n - 1) = some 1 := by
  obtain ⟨n, rfl⟩ : ∃ m, n = m + 1 := ⟨n - 1, by omega⟩
  rw [nI_p]
  exact in_in (by omega) (by omega) rfl
theorem isRider_out {s : St} {x : Int32} (hk : Tok s) (h : x < 0 ∨ nI (nrS s) ≤ x) : ∃ u, fX9_isRider s x = some (0, u) ∧ Dur s u ∧ Rdd u s := by
  obtain ⟨u, F, R, e⟩ := f_reads hk
  refine ⟨u, ?_, F.dur, R⟩
  unfold fX9_isRider
  rw [e, bd1_s, R.1, in_out2 (by have := nrS_8 hk; omega) h, bd1_s]; rfl
theorem isRider_in {s : St} {q : Nat} (hk : Tok s) (h : q < nrS s) : ∃ u, fX9_isRider s (nI q) = some (1, u) ∧ Dur s u ∧ Rdd u s := by
  obtain ⟨u, F, R, e⟩ := f_reads hk
  refine ⟨u, ?_, F.dur, R⟩
  unfold fX9_isRider
  rw [e, bd1_s, R.1, in_in2 (by have := nrS_8 hk; omega) h, bd1_s]; rfl
theorem isLeaver_out {s : St} {x : Int32} (hk : Tok s) (h : x < 0 ∨ nI (nlS s) ≤ x) : ∃ u, fX9_isLeaver s x = some (0, u) ∧ Dur s u ∧ Rdd u s := by
  obtain ⟨u, F, R, e⟩ := f_reads hk
  refine ⟨u, ?_, F.dur, R⟩
  unfold fX9_isLeaver
  rw [e, bd1_s, R.2.1, in_out2 (by have := nlS_8 hk; omega) h, bd1_s]; rfl
theorem isLeaver_in {s : St} {q : Nat} (hk : Tok s) (h : q < nlS s) : ∃ u, fX9_isLeaver s (nI q) = some (1, u) ∧ Dur s u ∧ Rdd u s := by
  obtain ⟨u, F, R, e⟩ := f_reads hk
  refine ⟨u, ?_, F.dur, R⟩
  unfold fX9_isLeaver
  rw [e, bd1_s, R.2.1, in_in2 (by have := nlS_8 hk; omega) h, bd1_s]; rfl
