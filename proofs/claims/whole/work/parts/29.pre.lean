/-! ===== the first stops of a way; a ride from its start ===== -/
theorem RR_pre {h : St} {nr nl hf : Nat} : ∀ (fs : List Nat) (k N n : Nat) (r t : St) (j w fl : Nat), RR h r t j w nr nl hf (fun _ => 2 * fl) → whn r j = w → pN r j = 2 * fl → fl < 10 → (∀ f, f ∈ fs → f < 10) → t 0 13 = nI n → (∀ i, i < fs.length → t 15 (k + i) = nI (fs.getD i 0)) → k + fs.length ≤ n → n ≤ 22 → j ≤ 2 * k → w ≤ 11 * k →
    ∃ r' t' j' w' fl', goL h fs r = some r' ∧ fX9_runs_8 (N + fs.length) (nI fl) (nI k) t = fX9_runs_8 N (nI fl') (nI (k + fs.length)) t' ∧ RR h r' t' j' w' nr nl hf (fun _ => 2 * fl') ∧ whn r' j' = w' ∧ pN r' j' = 2 * fl' ∧ fl' < 10 ∧ j ≤ j' ∧ j' ≤ 2 * (k + fs.length) ∧ w' ≤ 11 * (k + fs.length) ∧ Frm t t' ∧ r' 0 10 = r 0 10 ∧ r' 12 = r 12 ∧ (∀ c i, c ≠ 0 → i ≤ j → r' c i = r c i) ∧ (Lw r j → Lw r' j') ∧ (Dw r j → Dw r' j') ∧ (Mn r j → Mn r' j') ∧ (Ab r j nl → Ab r' j' nl)
  | [], k, N, n, r, t, j, w, fl => by
    intro H hw hp hfl _ h13 _ hk hN hj hw'
    exact ⟨r, t, j, w, fl, rfl, rfl, H, hw, hp, hfl, Nat.le_refl _, by simpa using hj, by simpa using hw', Frm.rf, rfl, rfl, fun _ _ _ _ => rfl, id, id, id, id⟩
  | f :: fs, k, N, n, r, t, j, w, fl => by
    intro H hw hp hfl hfs h13 h15 hk hN hj hw'
    rw [List.length_cons] at hk
    have hf10 : f < 10 := hfs f (by simp)
    obtain ⟨r1, t1, j1, w1, g1, g2, g3, g4, g5, g6, g7, g8, g9, F, k1, k2, k3, k4, k5, k6, k7⟩ := RR_hop (fX9_runs_8 (N + fs.length)) (nI k) H hw hp hfl hf10 (by omega) (by omega)
    have e15 : t1 15 = t 15 := F.1 15 (by decide) (by decide) (by decide) (by decide) (by decide) (by decide) (by decide) (by decide) (by decide) (by decide)
    have e13 : t1 0 13 = t 0 13 := F.2 13 (by decide) (by decide) (by decide) (by decide) (by decide) (by decide) (by decide) (by decide)
    obtain ⟨r2, t2, j2, w2, fl2, p1, p2, p3, p4, p5, p6, p7, p8, p9, F2, q1, q2, q3, q4, q5, q6, q7⟩ := RR_pre fs (k + 1) N n r1 t1 j1 w1 f g3 g4 g5 hf10 (fun x hx => hfs x (by simp [hx])) (by rw [e13, h13]) (fun i hi => by
      rw [e15, show k + 1 + i = k + (i + 1) by omega, h15 (i + 1) (by simp; omega)]; rfl) (by omega) (by omega) (by omega) (by omega)
    refine ⟨r2, t2, j2, w2, fl2, ?_, ?_, p3, p4, p5, p6, by omega, by simp; omega, by simp; omega, F.tr F2, q1.trans k1, q2.trans k2, fun c i hc hi => (q3 c i hc (by omega)).trans (k3 c i hc hi), fun L => q4 (fun i hi => by
      by_cases c : i ≤ j
      · rw [k3 9 i (by decide) c]; exact L i c
      · exact k4 i (by omega) hi), fun D => q5 (fun i hi => by
      by_cases c : i < j
      · rw [whn_e (k3 2 i (by decide) (by omega)), whn_e (k3 2 (i + 1) (by decide) (by omega)), pN_e (k3 3 i (by decide) (by omega)), pN_e (k3 3 (i + 1) (by decide) (by omega))]; exact D i c
      · exact k5 i (by omega) hi), fun M => q6 (fun i q hi hb => by
      by_cases c : i < j
      · rw [k3 8 i (by decide) (by omega)] at hb
        rw [k3 8 (i + 1) (by decide) (by omega)]
        exact M i q c hb
      · exact k6 i q (by omega) hi hb), fun A => q7 (fun i q hi hq hb => by
      by_cases c : i ≤ j
      · rw [k3 6 i (by decide) c] at hb
        exact A i q c hq hb
      · exact k7 i q (by omega) hi hq hb)⟩
    · rw [goL, g1, bd1_s, p1]
    · rw [List.length_cons, show N + (fs.length + 1) = N + fs.length + 1 by omega, fX9_runs_8, h13, if_neg (by rw [nI_le' (by omega) (by omega)]; omega), chk_nI (by omega) (by decide), stp_n, ix_nI (by omega)]
      have := h15 0 (by simp)
      rw [Nat.add_zero] at this
      rw [this]
      show fX9_runs_23 (fX9_runs_8 (N + fs.length)) 300 (nI fl) (nI k) (nI f) t = _
      rw [g2, nI_1, p2, show k + 1 + fs.length = k + (fs.length + 1) by omega]
/-- a ride, as far as it goes: both sides -/
def Rid (h r t : St) (nr nl hf j w fl : Nat) : Prop := RR h r t j w nr nl hf (fun _ => 2 * fl) ∧ whn r j = w ∧ pN r j = 2 * fl ∧ fl < 10 ∧ j ≤ 44 ∧ w ≤ 242 ∧ R0 r ∧ Lw r j ∧ Dw r j ∧ Mn r j ∧ Ab r j nl
/-- a ride at its start -/
def Beg (h r t : St) (nr nl : Nat) : Prop := Lea r t nr nl ∧ r 0 9 = nI 1 ∧ r 8 0 = h 0 5 ∧ R0 r
theorem RR_from {h r1 t : St} {nr nl hf n : Nat} {fs : List Nat} (hH : Hou h t nr nl hf) (hB : Beg h r1 t nr nl) (h13 : t 0 13 = nI n) (h15 : ∀ i, i < fs.length → t 15 i = nI (fs.getD i 0)) (hn : fs.length ≤ n) (h22 : n ≤ 22) (hfs : ∀ f, f ∈ fs → f < 10) :
    ∃ r' t' j w fl, goL h fs r1 = some r' ∧ fX9_runs t = fX9_runs_8 (300 - fs.length) (nI fl) (nI fs.length) t' ∧ Rid h r' t' nr nl hf j w fl ∧ j ≤ 2 * fs.length ∧ w ≤ 11 * fs.length ∧ Frm t t' := by
  obtain ⟨⟨hr1, hr2, hr8⟩, ⟨hl1, hl2, hl8⟩, -, -, -, -, -, -⟩ := id hH
  obtain ⟨bL, b9, b8, h01⟩ := hB
  obtain ⟨s1, s2, s3⟩ := RR_start hH bL b9 b8 h01
  have F0 := Frm_bT t nr
  have e13 : bT t nr 0 13 = t 0 13 := F0.2 13 (by decide) (by decide) (by decide) (by decide) (by decide) (by decide) (by decide) (by decide)
  have e15 : bT t nr 15 = t 15 := F0.1 15 (by decide) (by decide) (by decide) (by decide) (by decide) (by decide) (by decide) (by decide) (by decide) (by decide)
  obtain ⟨r2, t2, j2, wz, fl2, p1, p2, p3, p4, p5, p6, p7, p8, p9, F2, q1, q2, q3, q4, q5, q6, q7⟩ := RR_pre fs 0 (300 - fs.length) n r1 (bT t nr) 0 0 0 s1 s2 s3 (by omega) hfs (by rw [e13, h13]) (fun i hi => by rw [e15, Nat.zero_add, h15 i hi]) (by omega) h22 (by omega) (by omega)
  rw [Nat.zero_add] at p2 p8 p9
  refine ⟨r2, t2, j2, wz, fl2, p1, ?_, ⟨p3, p4, p5, p6, by omega, by omega, ?_, q4 (fun i hi hz => ?_), q5 (fun i hi => absurd hi (by omega)), q6 (fun i q hi => absurd hi (by omega)), q7 (fun i q hi hq hb => by
    rw [show i = 0 by omega, h01.2.2.2.2.1, bt_zero] at hb
    cases hb)⟩, p8, p9, F0.tr F2⟩
  · unfold fX9_runs
    rw [f_begins t hr2 hr8, bd1_s, ← p2, show 300 - fs.length + fs.length = 300 by omega]
    rfl
  · unfold R0
    rw [q3 2 0 (by decide) (by omega), q3 3 0 (by decide) (by omega), q3 4 0 (by decide) (by omega), q3 5 0 (by decide) (by omega), q3 6 0 (by decide) (by omega), q3 7 0 (by decide) (by omega), q3 9 0 (by decide) (by omega)]
    exact h01
  · rw [show i = 0 by omega] at hz
    exact absurd h01.2.2.2.2.2.2 hz
theorem runs_end {t : St} {fl n N : Nat} (h13 : t 0 13 = nI n) (hn : n < 2 ^ 31) (hN : 0 < N) : fX9_runs_8 N (nI fl) (nI n) t = some t := by
  obtain ⟨N, rfl⟩ : ∃ M, N = M + 1 := ⟨N - 1, by omega⟩
  rw [fX9_runs_8, h13, if_pos (by rw [nI_le' hn hn]; exact Nat.le_refl _)]
theorem Frm13 {t t' : St} (F : Frm t t') : t' 0 13 = t 0 13 := F.2 13 (by decide) (by decide) (by decide) (by decide) (by decide) (by decide) (by decide) (by decide)
theorem Frm15 {t t' : St} (F : Frm t t') : t' 15 = t 15 := F.1 15 (by decide) (by decide) (by decide) (by decide) (by decide) (by decide) (by decide) (by decide) (by decide) (by decide)
/-- a whole ride -/
theorem RR_all {h r1 t : St} {nr nl hf : Nat} {fs : List Nat} (hH : Hou h t nr nl hf) (hB : Beg h r1 t nr nl) (hW : Way t fs) : ∃ r' t' j w fl, goL h fs r1 = some r' ∧ fX9_runs t = some t' ∧ Rid h r' t' nr nl hf j w fl ∧ j ≤ 2 * fs.length ∧ w ≤ 11 * fs.length ∧ Frm t t' := by
  obtain ⟨w1, w2, w3, w4⟩ := hW
  obtain ⟨r', t', j, w, fl, a1, a2, a3, a4, a5, a6⟩ := RR_from hH hB w1 w2 (Nat.le_refl _) w3 w4
  refine ⟨r', t', j, w, fl, a1, ?_, a3, a4, a5, a6⟩
  rw [a2, runs_end (t := t') (n := fs.length) (by rw [Frm13 a6, w1]) (by omega) (by omega)]
/-- the class' start of a ride -/
theorem Beg_begin {h r t : St} {S : Int32} {nr nl hf : Nat} (hH : Hou h t nr nl hf) (hS : Lvs h t S nl) (h0 : R0 r) : ∃ r1, fX4_begin h r S = some r1 ∧ Beg h r1 t nr nl := by
  obtain ⟨⟨hr1, hr2, hr8⟩, ⟨hl1, hl2, hl8⟩, -, -, -, -, -, -⟩ := id hH
  obtain ⟨r1, b1, b2, b3, b4, b5, b6⟩ := f_begin h r S hl1 hl8 hr1 hr8 (fun l hl => by
    obtain ⟨w, hw, ew⟩ := hS.1 l hl
    exact ⟨w, hw, by rw [hS.2.1 l hl, ew]⟩)
  refine ⟨r1, b1, Lea_begin hH hS b5 b6, b2, by rw [b3, upd_s], ?_⟩
  unfold R0
  rw [b4 2 (by decide) (by decide) (by decide), b4 3 (by decide) (by decide) (by decide), b4 4 (by decide) (by decide) (by decide), b4 5 (by decide) (by decide) (by decide), b4 6 (by decide) (by decide) (by decide), b4 7 (by decide) (by decide) (by decide), b4 9 (by decide) (by decide) (by decide)]
  exact h0
/-! ===== rows behind the newest count for nothing ===== -/
theorem RR_ext {h r r' t : St} {j w nr nl hf : Nat} {cp : Nat → Nat} (H : RR h r t j w nr nl hf cp) (e : ∀ c i, c ≠ 0 → i ≤ j → r' c i = r c i) (e9 : r' 0 9 = r 0 9) (e10 : r' 0 10 = r 0 10) (e12 : r' 12 = r 12) : RR h r' t j w nr nl hf cp := by
  obtain ⟨hH, hL, hR, hC, hI, hP, hV⟩ := H
  have ew : ∀ i, i ≤ j → whn r' i = whn r i := fun i hi => whn_e (e 2 i (by decide) hi)
  have ep : ∀ i, i ≤ j → pN r' i = pN r i := fun i hi => pN_e (e 3 i (by decide) hi)
  refine ⟨hH, ?_, ⟨by rw [e9]; exact hR.1, fun i hi => ?_, by rw [ew 0 (by omega)]; exact hR.2.2.1, fun i hi => ?_⟩, ?_, ⟨fun i τ hi a b => ?_, fun τ a b => ?_⟩, ⟨fun q hq => ?_, ?_, ?_⟩, ?_⟩
  · unfold Lea
    rw [e10, e12]
    exact hL
  · rw [e 2 i (by decide) hi, e 3 i (by decide) hi, ew i hi, ep i hi]
    exact hR.2.1 i hi
  · rw [ew i (by omega), ew (i + 1) (by omega)]
    exact hR.2.2.2 i hi
  · unfold Cur
    rw [ew j (Nat.le_refl _), e 4 j (by decide) (Nat.le_refl _), e 5 j (by decide) (Nat.le_refl _), e 6 j (by decide) (Nat.le_refl _), e 7 j (by decide) (Nat.le_refl _), e 8 j (by decide) (Nat.le_refl _), e10]
    exact hC
  · rw [ew i (by omega)] at a
    rw [ew (i + 1) (by omega)] at b
    unfold segm
    rw [e 4 i (by decide) (by omega), e 5 i (by decide) (by omega), e 6 i (by decide) (by omega), ep i (by omega), ep (i + 1) (by omega), ew i (by omega)]
    exact hI.1 i τ hi a b
  · rw [ew j (Nat.le_refl _)] at a
    unfold segm
    rw [e 4 j (by decide) (Nat.le_refl _), e 5 j (by decide) (Nat.le_refl _), e 6 j (by decide) (Nat.le_refl _), ew j (Nat.le_refl _)]
    exact hI.2 τ a b
  · obtain ⟨a1, a2, a3, a4, a5⟩ := hP.1 q hq
    refine ⟨?_, ?_, ?_, ?_, ?_⟩
    · rw [a1]; exact fst1_e (fun i hi => ⟨by rw [e 5 i (by decide) (by omega)], by rw [e 2 i (by decide) (by omega)]⟩)
    · rw [a2]; exact fst1_e (fun i hi => ⟨by rw [e 8 i (by decide) (by omega)], by rw [e 2 i (by decide) (by omega)]⟩)
    · rw [a3]; exact cnt1_e (fun i hi => by rw [e 9 i (by decide) (by omega)])
    · rw [a4]; exact (knR_e (fun i hi => ⟨e 5 i (by decide) (by omega), e 6 i (by decide) (by omega)⟩)).symm
    · rw [a5]; exact (congrFun (hdR_e (fun i hi => ⟨e 5 i (by decide) (by omega), e 6 i (by decide) (by omega)⟩)) q).symm
  · rw [hP.2.1]; exact fst1_e (fun i hi => ⟨by rw [e 9 i (by decide) (by omega)], by rw [e 2 i (by decide) (by omega)]⟩)
  · rw [hP.2.2]; exact fst1_e (fun i hi => ⟨by rw [e 9 i (by decide) (by omega)], by rw [e 9 i (by decide) (by omega)]⟩)
  · unfold Inv
    rw [e 8 j (by decide) (Nat.le_refl _), e 5 j (by decide) (Nat.le_refl _)]
    exact hV
theorem Rid_ext {h r r' t : St} {nr nl hf j w fl : Nat} (H : Rid h r t nr nl hf j w fl) (e : ∀ c i, c ≠ 0 → i ≤ j → r' c i = r c i) (e9 : r' 0 9 = r 0 9) (e10 : r' 0 10 = r 0 10) (e12 : r' 12 = r 12) : Rid h r' t nr nl hf j w fl := by
  obtain ⟨h1, h2, h3, h4, h5, h6, h7, h8, h9, h10, h11⟩ := H
  refine ⟨RR_ext h1 e e9 e10 e12, (whn_e (e 2 j (by decide) (Nat.le_refl _))).trans h2, (pN_e (e 3 j (by decide) (Nat.le_refl _))).trans h3, h4, h5, h6, ?_, fun i hi => ?_, fun i hi => ?_, fun i q hi hb => ?_, fun i q hi hq hb => ?_⟩
  · unfold R0
    rw [e 2 0 (by decide) (by omega), e 3 0 (by decide) (by omega), e 4 0 (by decide) (by omega), e 5 0 (by decide) (by omega), e 6 0 (by decide) (by omega), e 7 0 (by decide) (by omega), e 9 0 (by decide) (by omega)]
    exact h7
  · rw [e 9 i (by decide) hi]; exact h8 i hi
  · rw [whn_e (e 2 i (by decide) (by omega)), whn_e (e 2 (i + 1) (by decide) (by omega)), pN_e (e 3 i (by decide) (by omega)), pN_e (e 3 (i + 1) (by decide) (by omega))]
    exact h9 i hi
  · rw [e 8 i (by decide) (by omega)] at hb
    rw [e 8 (i + 1) (by decide) (by omega)]
    exact h10 i q hi hb
  · rw [e 6 i (by decide) hi] at hb
    exact h11 i q hi hq hb
/-- some stops more -/
theorem RR_on {h r t : St} {nr nl hf j w fl k n : Nat} {fs : List Nat} (H : Rid h r t nr nl hf j w fl) (hj : j ≤ 2 * k) (hw : w ≤ 11 * k) (h13 : t 0 13 = nI n) (h15 : ∀ i, i < fs.length → t 15 (k + i) = nI (fs.getD i 0)) (hn : n = k + fs.length) (h22 : n ≤ 22) (hfs : ∀ f, f ∈ fs → f < 10) {N : Nat} (hN : fs.length < N) :
    ∃ r' t' j' w' fl', goL h fs r = some r' ∧ fX9_runs_8 N (nI fl) (nI k) t = some t' ∧ Rid h r' t' nr nl hf j' w' fl' ∧ Frm t t' ∧ j ≤ j' ∧ r' 0 10 = r 0 10 ∧ r' 12 = r 12 ∧ (∀ c i, c ≠ 0 → i ≤ j → r' c i = r c i) := by
  obtain ⟨h1, h2, h3, h4, h5, h6, h7, h8, h9, h10, h11⟩ := H
  obtain ⟨r', t', j', w', fl', a1, a2, a3, a4, a5, a6, a7, a8, a9, F, b1, b2, b3, b4, b5, b6, b7⟩ := RR_pre fs k (N - fs.length) n r t j w fl h1 h2 h3 h4 hfs h13 h15 (by omega) h22 hj hw
  rw [show N - fs.length + fs.length = N by omega, runs_end (t := t') (n := k + fs.length) (by rw [Frm13 F, h13, hn]) (by omega) (by omega)] at a2
  refine ⟨r', t', j', w', fl', a1, a2, ⟨a3, a4, a5, a6, by omega, by omega, ?_, b4 h8, b5 h9, b6 h10, b7 h11⟩, F, a7, b1, b2, b3⟩
  unfold R0
  rw [b3 2 0 (by decide) (by omega), b3 3 0 (by decide) (by omega), b3 4 0 (by decide) (by omega), b3 5 0 (by decide) (by omega), b3 6 0 (by decide) (by omega), b3 7 0 (by decide) (by omega), b3 9 0 (by decide) (by omega)]
  exact h7
