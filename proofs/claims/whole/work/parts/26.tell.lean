/-! ===== where the lift is behind a step ===== -/
theorem f_rowBehind_7 {h r : St} {j : Nat} (hR : Rws r j) (hj : j ≤ 44) {T : Nat} (hT : T < 1000) : ∀ (i N : Nat), i ≤ j → i < N → (i = j ∨ T < whn r (i + 1)) → ∃ k, k ≤ j ∧ fX4_rowBehind_7 h r N (nI T) (nI i) = some (nI k) ∧ whn r k ≤ T ∧ (k = j ∨ T < whn r (k + 1))
  | 0, N, hi, hN, hb => by
    obtain ⟨N, rfl⟩ : ∃ M, N = M + 1 := ⟨N - 1, by omega⟩
    refine ⟨0, by omega, ?_, by rw [hR.2.2.1]; omega, hb⟩
    rw [fX4_rowBehind_7, show (0 : Int32) = nI 0 from rfl, if_pos (by rw [nI_le' (by omega) (by omega)]; omega)]
  | i + 1, N, hi, hN, hb => by
    obtain ⟨N, rfl⟩ : ∃ M, N = M + 1 := ⟨N - 1, by omega⟩
    obtain ⟨a1, a2, -, -⟩ := hR.2.1 (i + 1) hi
    have e : fX4_rowBehind_7 h r (N + 1) (nI T) (nI (i + 1)) = if T < whn r (i + 1) then fX4_rowBehind_7 h r N (nI T) (nI i) else some (nI (i + 1)) := by
      rw [fX4_rowBehind_7, if_neg (by rw [show (0 : Int32) = nI 0 from rfl, nI_le' (by omega) (by omega)]; omega), chk_nI (by omega) (by decide), stp_n, ix_nI (by omega), a1, stp_n]
      have e1 : nI (i + 1) + (-1) = nI i := by rw [← nI_p i, Int32.sub_eq_add_neg]
      rw [e1]
      by_cases c : T < whn r (i + 1)
      · rw [if_pos c, if_pos (by rw [nI_lt' (by omega) (by omega)]; exact c)]
      · rw [if_neg c, if_neg (by rw [nI_lt' (by omega) (by omega)]; exact c)]
    by_cases c : T < whn r (i + 1)
    · rw [if_pos c] at e
      rw [e]
      exact f_rowBehind_7 hR hj hT i N (by omega) (by omega) (Or.inr c)
    · rw [if_neg c] at e
      exact ⟨i + 1, hi, e, by omega, hb⟩
theorem f_rowBehind {h r : St} {j : Nat} (hR : Rws r j) (hj : j ≤ 44) {T : Nat} (hT : T < 1000) : ∃ k, k ≤ j ∧ fX4_rowBehind h r (nI T) = some (nI k) ∧ whn r k ≤ T ∧ (k = j ∨ T < whn r (k + 1)) := by
  obtain ⟨k, h1, h2, h3, h4⟩ := f_rowBehind_7 (h := h) hR hj hT j 300 (Nat.le_refl _) (by omega) (Or.inl rfl)
  refine ⟨k, h1, ?_, h3, h4⟩
  unfold fX4_rowBehind
  rw [hR.1, nI_p, stp_n, h2]
/-- the step at which the reference looks -/
def stp1 (T w : Nat) : Nat := if w ≤ T then w else T
theorem q_row {h r t : St} {j w nr nl hf : Nat} {cp : Nat → Nat} (H : RR h r t j w nr nl hf cp) (hw : whn r j = w) (hj : j ≤ 44) {T : Nat} (hT : T < 1000) : ∃ k, k ≤ j ∧ fX4_rowBehind h r (nI T) = some (nI k) ∧ whn r k ≤ T ∧ (k = j ∨ T < whn r (k + 1)) ∧ segm r t k (stp1 T w) := by
  obtain ⟨hH, hL, hR, hC, hI, hP, hV⟩ := H
  obtain ⟨k, h1, h2, h3, h4⟩ := f_rowBehind (h := h) hR hj hT
  refine ⟨k, h1, h2, h3, h4, ?_⟩
  unfold stp1
  by_cases c : k = j
  · subst c
    rw [if_pos (by omega)]
    exact (hI.2 w (by omega) (Nat.le_refl _)).1
  · have h5 : T < whn r (k + 1) := by
      rcases h4 with z | z
      · exact absurd z c
      · exact z
    have h6 : whn r (k + 1) ≤ whn r j := Rws_mono hR (by omega) (Nat.le_refl _)
    rw [if_neg (by omega)]
    exact (hI.1 k T (by omega) h3 h5).1
theorem q_tell {h r t : St} {j w nr nl hf : Nat} {cp : Nat → Nat} (H : RR h r t j w nr nl hf cp) (hw : whn r j = w) (hj : j ≤ 44) {T : Nat} (hT : T < 1000) (x : Int32) (hx : ¬ x = 0) : fX4_tell h r (nI T) x = some (if x = 1 then t 24 (stp1 T w) else if x = 2 then t 25 (stp1 T w) else t 26 (stp1 T w)) := by
  obtain ⟨k, h1, h2, -, -, s1, s2, s3⟩ := q_row H hw hj hT
  unfold fX4_tell
  rw [h2, bd1_s, if_neg hx, s1, s2, s3, ix_nI (by omega)]
  simp only [chk_nI (show k < 45 by omega) (show 45 < 2 ^ 31 by decide), stp_n]
  by_cases c : x = 1
  · rw [if_pos c, if_pos c]
  · rw [if_neg c, if_neg c]
    by_cases c2 : x = 2
    · rw [if_pos c2, if_pos c2]
    · rw [if_neg c2, if_neg c2]
