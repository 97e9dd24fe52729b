/-! ===== the class' questions over the rows, answered as the reference notes them ===== -/
theorem fst1_cs (p : Nat → Bool) : ∀ n, (∀ i, i < n → p i = false) ∨ ∃ i, i < n ∧ p i = true ∧ ∀ k, k < i → p k = false
  | 0 => Or.inl (fun i hi => absurd hi (by omega))
  | n + 1 => by
    rcases fst1_cs p n with a | ⟨i, h1, h2, h3⟩
    · cases c : p n
      · left
        intro i hi
        by_cases z : i = n
        · rw [z, c]
        · exact a i (by omega)
      · exact Or.inr ⟨n, by omega, c, a⟩
    · exact Or.inr ⟨i, by omega, h2, h3⟩
theorem lowS_at {x : Int32} {i : Nat} (h1 : ∀ k, k < i → bt x k = false) (h2 : bt x i = true) (hi : i < 2 ^ 31) : ∀ {n : Nat}, i < n → lowS x n = nI i
  | 0, h => absurd h (by omega)
  | n + 1, h => by
    rw [lowS]
    by_cases c : i = n
    · subst c
      rw [lowS_none h1, if_pos rfl, h2]
      rfl
    · rw [lowS_at h1 h2 hi (by omega : i < n), if_neg (nI_nm hi)]
theorem f_refusesWhom_7 (h r : St) {w : Nat} (h45 : w < 45) : ∀ (m i N : Nat), m + i = 8 → m < N → (∀ k, k < i → bt (r 9 w) k = false) → fX4_refusesWhom_7 h r N (nI w) (nI i) = some (lowS (r 9 w) 8)
  | 0, i, N, e, hN, hb => by
    obtain ⟨N, rfl⟩ : ∃ M, N = M + 1 := ⟨N - 1, by omega⟩
    rw [fX4_refusesWhom_7, show (0 : Int32) = nI 0 from rfl, show (8 : Int32) = nI 8 from rfl, if_neg (by rw [nI_lt' (by omega) (by omega)]; omega), if_pos (by rw [nI_le' (by omega) (by omega)]; omega), lowS_none (fun k hk => hb k (by omega))]
  | m + 1, i, N, e, hN, hb => by
    obtain ⟨N, rfl⟩ : ∃ M, N = M + 1 := ⟨N - 1, by omega⟩
    rw [fX4_refusesWhom_7, if_neg (by rw [show (0 : Int32) = nI 0 from rfl, nI_lt' (by omega) (by omega)]; omega), if_neg (by rw [show (8 : Int32) = nI 8 from rfl, nI_le' (by omega) (by omega)]; omega), chk_nI (by omega) (by decide), stp_n, ix_nI (by omega), f_has _ (by omega), bd1_s]
    cases c : bt (r 9 w) i
    · rw [if_pos (by simp), stp_n, nI_1]
      exact f_refusesWhom_7 h r h45 m (i + 1) N (by omega) (by omega) (fun k hk => by
        by_cases z : k = i
        · rw [z, c]
        · exact hb k (by omega))
    · rw [if_neg (by simp), lowS_at hb c (by omega) (by omega)]
theorem Rws_2 {r : St} {j : Nat} (hR : Rws r j) : ∀ i, i < j + 1 → ¬ r 2 i = -1 := fun i hi => by
  rw [(hR.2.1 i (by omega)).1]
  exact nI_nm (by have := (hR.2.1 i (by omega)).2.1; omega)
theorem q_arrives {h r t : St} {j w nr nl hf q : Nat} {cp : Nat → Nat} (H : RR h r t j w nr nl hf cp) (hj : j ≤ 44) (hq : q < nr) : fX4_arrivesBehind h r (nI q) = some (t 28 q) := by
  obtain ⟨hH, hL, hR, hC, hI, hP, hV⟩ := H
  have h8 := hH.1.2.2
  rw [(hP.1 q hq).2.1]
  exact f_arrivesBehind_2 h r hR.1 (by omega) (by omega) (Rws_2 hR) (j + 1) 0 300 (by omega) (by omega) (fun k hk => absurd hk (by omega))
theorem q_getsIn {h r t : St} {j w nr nl hf q : Nat} {cp : Nat → Nat} (H : RR h r t j w nr nl hf cp) (hj : j ≤ 44) (hq : q < nr) : fX4_getsInBehind h r (nI q) = some (t 27 q) := by
  obtain ⟨hH, hL, hR, hC, hI, hP, hV⟩ := H
  have h8 := hH.1.2.2
  rw [(hP.1 q hq).1]
  exact f_getsInBehind_2 h r hR.1 (by omega) (by omega) (Rws_2 hR) (j + 1) 0 300 (by omega) (by omega) (fun k hk => absurd hk (by omega))
theorem q_known {h r t : St} {j w nr nl hf q : Nat} {cp : Nat → Nat} (H : RR h r t j w nr nl hf cp) (hj : j ≤ 44) (hq : q < nr) : fX4_known h r (nI q) = some (t 32 q) := by
  obtain ⟨hH, hL, hR, hC, hI, hP, hV⟩ := H
  have h8 := hH.1.2.2
  rw [(hP.1 q hq).2.2.2.1]
  exact f_known_4 h r hR.1 (by omega) (by omega) (j + 1) 0 300 (by omega) (by omega)
theorem q_times {h r t : St} {j w nr nl hf q : Nat} {cp : Nat → Nat} (H : RR h r t j w nr nl hf cp) (hj : j ≤ 44) (hq : q < nr) : fX4_timesRefused h r (nI q) = some (t 29 q) := by
  obtain ⟨hH, hL, hR, hC, hI, hP, hV⟩ := H
  have h8 := hH.1.2.2
  rw [(hP.1 q hq).2.2.1]
  exact f_timesRefused_4 h r hR.1 (by omega) (by omega) (j + 1) 0 300 (by omega) (by omega)
theorem q_inRow {h r t : St} {j w nr nl hf : Nat} {cp : Nat → Nat} (H : RR h r t j w nr nl hf cp) (hw : Lw r j) (hj : j ≤ 44) : (fX4_refusesInRow h r = some (-1) ∧ t 0 29 = -1 ∧ t 0 30 = -1) ∨ ∃ i, i ≤ j ∧ fX4_refusesInRow h r = some (nI i) ∧ t 0 29 = r 2 i ∧ t 0 30 = lowS (r 9 i) 8 := by
  obtain ⟨hH, hL, hR, hC, hI, hP, hV⟩ := H
  have g := f_refusesInRow_2 h r hR.1 (by omega) (j + 1) 0 300 (by omega) (by omega) (fun k hk => absurd hk (by omega))
  rcases fst1_cs (fun i => !decide (r 9 i = 0)) (j + 1) with a | ⟨i, h1, h2, h3⟩
  · left
    refine ⟨?_, ?_, ?_⟩
    · rw [fst1_no a] at g; exact g
    · rw [hP.2.1, fst1_no a]
    · rw [hP.2.2, fst1_no a]
  · by_cases c : lowS (r 9 i) 8 = -1
    · exact absurd c (hw i (by omega) (by simpa using h2))
    · right
      refine ⟨i, by omega, ?_, ?_, ?_⟩
      · rw [fst1_at (v := fun i => nI i) h3 h2 (nI_nm (by omega)) h1] at g; exact g
      · rw [hP.2.1, fst1_at h3 h2 (Rws_2 hR i h1) h1]
      · rw [hP.2.2, fst1_at (v := fun i => lowS (r 9 i) 8) h3 h2 c h1]
theorem q_ends {h r t : St} {j w nr nl hf : Nat} {cp : Nat → Nat} (H : RR h r t j w nr nl hf cp) (hw : whn r j = w) (hj : j ≤ 44) : fX4_endsBehind h r = some (t 0 16) := by
  obtain ⟨hH, hL, hR, hC, hI, hP, hV⟩ := H
  unfold fX4_endsBehind
  rw [hR.1, nI_p, chk_nI (by omega) (by decide), stp_n, ix_nI (by omega), (hR.2.1 j (Nat.le_refl _)).1, hw, hC.1]
theorem q_refuses {h r t : St} {j w nr nl hf : Nat} {cp : Nat → Nat} (H : RR h r t j w nr nl hf cp) (hw : Lw r j) (hj : j ≤ 44) : fX4_refusesBehind h r = some (t 0 29) := by
  unfold fX4_refusesBehind
  rcases q_inRow H hw hj with ⟨a, b, c⟩ | ⟨i, h1, a, b, c⟩
  · rw [a, bd1_s, if_neg (by decide), b]
  · rw [a, bd1_s, if_pos (by rw [show (0 : Int32) = nI 0 from rfl, nI_le' (by omega) (by omega)]; omega), chk_nI (by omega) (by decide), stp_n, ix_nI (by omega), b]
theorem q_whom {h r t : St} {j w nr nl hf : Nat} {cp : Nat → Nat} (H : RR h r t j w nr nl hf cp) (hw : Lw r j) (hj : j ≤ 44) : fX4_refusesWhom h r = some (t 0 30) := by
  unfold fX4_refusesWhom
  rcases q_inRow H hw hj with ⟨a, b, c⟩ | ⟨i, h1, a, b, c⟩
  · rw [a, bd1_s, fX4_refusesWhom_7, if_pos (by decide), c]
  · rw [a, bd1_s, c]
    exact f_refusesWhom_7 h r (by omega) 8 0 300 (by omega) (by omega) (fun k hk => absurd hk (by omega))
