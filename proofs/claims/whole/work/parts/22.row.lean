/-! ===== a row of stops: both sides ===== -/
def Lw (r : St) (j : Nat) : Prop := ∀ i, i ≤ j → ¬ r 9 i = 0 → ¬ lowS (r 9 i) 8 = -1
def Dw (r : St) (j : Nat) : Prop := ∀ i, i < j → ¬ pN r i < pN r (i + 1) → 2 * (whn r (i + 1) - whn r i - 1) ≤ pN r i + 1
def Mn (r : St) (j : Nat) : Prop := ∀ i q, i < j → bt (r 8 i) q = true → bt (r 8 (i + 1)) q = true
def Ab (r : St) (j nl : Nat) : Prop := ∀ i q, i ≤ j → q < 32 → bt (r 6 i) q = true → q < nl
def goL (h : St) : List Nat → St → Option St
  | [], r => some r
  | f :: fs, r => bd1 (fX4_goTo h r (nI f)) (fun r' => goL h fs r')
theorem RR_row {h : St} {nr nl hf : Nat} : ∀ (fs : List Nat) (k N : Nat) (r t : St) (j w fl : Nat), RR h r t j w nr nl hf (fun _ => 2 * fl) → whn r j = w → pN r j = 2 * fl → fl < 10 → (∀ f, f ∈ fs → f < 10) → t 0 13 = nI (k + fs.length) → (∀ i, i < fs.length → t 15 (k + i) = nI (fs.getD i 0)) → k + fs.length ≤ 22 → fs.length < N → j ≤ 2 * k → w ≤ 11 * k →
    ∃ r' t' j' w' fl', goL h fs r = some r' ∧ fX9_runs_8 N (nI fl) (nI k) t = some t' ∧ RR h r' t' j' w' nr nl hf (fun _ => 2 * fl') ∧ whn r' j' = w' ∧ pN r' j' = 2 * fl' ∧ fl' < 10 ∧ j ≤ j' ∧ j' ≤ 2 * (k + fs.length) ∧ w' ≤ 11 * (k + fs.length) ∧ Frm t t' ∧ r' 0 10 = r 0 10 ∧ r' 12 = r 12 ∧ (∀ c i, c ≠ 0 → i ≤ j → r' c i = r c i) ∧ (Lw r j → Lw r' j') ∧ (Dw r j → Dw r' j') ∧ (Mn r j → Mn r' j')
  | [], k, N, r, t, j, w, fl => by
    intro H hw hp hfl _ h13 _ hk hN hj hw'
    obtain ⟨N, rfl⟩ : ∃ M, N = M + 1 := ⟨N - 1, by simp at hN; omega⟩
    refine ⟨r, t, j, w, fl, rfl, ?_, H, hw, hp, hfl, Nat.le_refl _, by simpa using hj, by simpa using hw', Frm.rf, rfl, rfl, fun _ _ _ _ => rfl, id, id, id⟩
    rw [fX9_runs_8, h13]
    simp at hk
    rw [if_pos (by rw [nI_le' (by simp; omega) (by omega)]; simp)]
  | f :: fs, k, N, r, t, j, w, fl => by
    intro H hw hp hfl hfs h13 h15 hk hN hj hw'
    obtain ⟨N, rfl⟩ : ∃ M, N = M + 1 := ⟨N - 1, by simp at hN; omega⟩
    rw [List.length_cons] at h13 hk hN
    have hf10 : f < 10 := hfs f (by simp)
    obtain ⟨r1, t1, j1, w1, g1, g2, g3, g4, g5, g6, g7, g8, g9, F, k1, k2, k3, k4, k5, k6, k7⟩ := RR_hop (fX9_runs_8 N) (nI k) H hw hp hfl hf10 (by omega) (by omega)
    have e15 : t1 15 = t 15 := F.1 15 (by decide) (by decide) (by decide) (by decide) (by decide) (by decide) (by decide) (by decide) (by decide) (by decide)
    have e13 : t1 0 13 = t 0 13 := F.2 13 (by decide) (by decide) (by decide) (by decide) (by decide) (by decide) (by decide) (by decide)
    obtain ⟨r2, t2, j2, w2, fl2, p1, p2, p3, p4, p5, p6, p7, p8, p9, F2, q1, q2, q3, q4, q5, q6⟩ := RR_row fs (k + 1) N r1 t1 j1 w1 f g3 g4 g5 hf10 (fun x hx => hfs x (by simp [hx])) (by rw [e13, h13]; congr 1; omega) (fun i hi => by
      rw [e15, show k + 1 + i = k + (i + 1) by omega, h15 (i + 1) (by simp; omega)]; rfl) (by omega) (by omega) (by omega) (by omega)
    refine ⟨r2, t2, j2, w2, fl2, ?_, ?_, p3, p4, p5, p6, by omega, by simp; omega, by simp; omega, F.tr F2, q1.trans k1, q2.trans k2, fun c i hc hi => (q3 c i hc (by omega)).trans (k3 c i hc hi), fun L => q4 (fun i hi => by
      by_cases c : i ≤ j
      · rw [k3 9 i (by decide) c]; exact L i c
      · exact k4 i (by omega) hi), fun D => q5 (fun i hi => by
      by_cases c : i < j
      · rw [whn_e (k3 2 i (by decide) (by omega)), whn_e (k3 2 (i + 1) (by decide) (by omega)), pN_e (k3 3 i (by decide) (by omega)), pN_e (k3 3 (i + 1) (by decide) (by omega))]; exact D i c
      · exact k5 i (by omega) hi), fun M => q6 (fun i q hi hb => by
      by_cases c : i < j
      · rw [k3 8 i (by decide) (by omega)] at hb
        rw [k3 8 (i + 1) (by decide) (by omega)]
        exact M i q c hb
      · exact k6 i q (by omega) hi hb)⟩
    · rw [goL, g1, bd1_s, p1]
    · rw [fX9_runs_8, h13, if_neg (by rw [nI_le' (by omega) (by omega)]; omega), chk_nI (by omega) (by decide), stp_n, ix_nI (by omega)]
      have := h15 0 (by simp)
      rw [Nat.add_zero] at this
      rw [this]
      show fX9_runs_23 (fX9_runs_8 N) 300 (nI fl) (nI k) (nI f) t = _
      rw [g2, nI_1, p2]
/-- the stops from the i-th on, without a and b -/
def lst (st : Nat → Nat) (a b : Int32) : Nat → Nat → List Nat
  | 0, _ => []
  | m + 1, i => if nI i = a ∨ nI i = b then lst st a b m (i + 1) else st i :: lst st a b m (i + 1)
theorem f_goToStops_2 (h : St) (st : Nat → Nat) (a b : Int32) {n : Nat} (hn : h 0 4 = nI n) (h20 : n ≤ 20) (hs : ∀ i, i < n → h 12 i = nI (st i)) : ∀ (m i N : Nat) (r : St), m + i = n → m < N → fX4_goToStops_2 h N a b (nI i) r = goL h (lst st a b m i) r
  | 0, i, N, r, e, hN => by
    obtain ⟨N, rfl⟩ : ∃ M, N = M + 1 := ⟨N - 1, by omega⟩
    rw [fX4_goToStops_2, hn, if_pos (by rw [nI_le' (by omega) (by omega)]; omega)]
    rfl
  | m + 1, i, N, r, e, hN => by
    obtain ⟨N, rfl⟩ : ∃ M, N = M + 1 := ⟨N - 1, by omega⟩
    have ih := fun r => f_goToStops_2 h st a b hn h20 hs m (i + 1) N r (by omega) (by omega)
    rw [fX4_goToStops_2, hn, if_neg (by rw [nI_le' (by omega) (by omega)]; omega), lst]
    by_cases c1 : nI i = a
    · rw [if_pos c1, if_pos (Or.inl c1), stp_n, nI_1, ih]
    · rw [if_neg c1]
      by_cases c2 : nI i = b
      · rw [if_pos c2, if_pos (Or.inr c2), stp_n, nI_1, ih]
      · rw [if_neg c2, if_neg (by intro z; rcases z with z | z; exact c1 z; exact c2 z), chk_nI (by omega) (by decide), stp_n, ix_nI (by omega), hs i (by omega), goL]
        congr 1
        funext r'
        rw [stp_n, nI_1, ih]
theorem lst_len (st : Nat → Nat) (a b : Int32) : ∀ m i, (lst st a b m i).length ≤ m
  | 0, _ => Nat.le_refl _
  | m + 1, i => by
    have := lst_len st a b m (i + 1)
    rw [lst]
    split
    · omega
    · rw [List.length_cons]; omega
theorem lst_lt (st : Nat → Nat) (a b : Int32) {n : Nat} (hs : ∀ i, i < n → st i < 10) : ∀ m i, m + i ≤ n → ∀ f, f ∈ lst st a b m i → f < 10
  | 0, _, _, f, hf => by cases hf
  | m + 1, i, e, f, hf => by
    have ih := lst_lt st a b hs m (i + 1) (by omega) f
    rw [lst] at hf
    split at hf
    · exact ih hf
    · rcases List.mem_cons.1 hf with z | z
      · rw [z]; exact hs i (by omega)
      · exact ih z
theorem f_goToStops {h : St} {st : Nat → Nat} {a b : Int32} {n : Nat} (r : St) (hn : h 0 4 = nI n) (h20 : n ≤ 20) (hs : ∀ i, i < n → h 12 i = nI (st i)) : fX4_goToStops h r a b = goL h (lst st a b n 0) r :=
  f_goToStops_2 h st a b hn h20 hs n 0 300 r (by omega) (by omega)
