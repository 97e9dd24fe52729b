/-! ===== from stop to stop: both sides ===== -/
def RR (h r t : St) (j w nr nl hf : Nat) (cp : Nat → Nat) : Prop := Hou h t nr nl hf ∧ Lea r t nr nl ∧ Rws r j ∧ Cur r t j w nr nl ∧ His r t j w cp ∧ Ppl r t j nr ∧ Inv r t j nr
theorem Inv_e {r r' t u : St} {j j' nr : Nat} (h : Inv r t j nr) (e1 : u 27 = t 27) (e2 : u 28 = t 28) (e3 : u 0 20 = t 0 20) (e4 : u 0 29 = t 0 29) (e5 : u 0 30 = t 0 30) (e6 : r' 5 j' = r 5 j) (e7 : r' 8 j' = r 8 j) : Inv r' u j' nr := by
  unfold Inv
  rw [e1, e2, e3, e4, e5, e6, e7]
  exact h
theorem RR_trv {h r t : St} {j w nr nl hf : Nat} {cp : Nat → Nat} (H : RR h r t j w nr nl hf cp) (p : Nat → Int32) (d : Nat) (cp2 : Nat → Nat) (e1 : ∀ g, g ≤ w - whn r j → cp2 g = cp g) (e2 : ∀ g, 1 ≤ g → g ≤ d → p g = nI (cp2 (w - whn r j + g))) : RR h r (trv t w p d) j (w + d) nr nl hf cp2 := by
  obtain ⟨hH, hL, hR, hC, hI, hP, hV⟩ := H
  have tc : ∀ c, c ≠ 0 → c ≠ 23 → c ≠ 24 → c ≠ 25 → c ≠ 26 → trv t w p d c = t c := fun c a b c' d' e => trv_c t w p a b c' d' e d
  have ts : ∀ i, i ≠ 16 → i ≠ 17 → trv t w p d 0 i = t 0 i := fun i a b => trv_s t w p a b d
  refine ⟨Hou_e hH ⟨ts 2 (by decide) (by decide), ts 6 (by decide) (by decide), ts 11 (by decide) (by decide), ts 12 (by decide) (by decide)⟩ (tc 4 (by decide) (by decide) (by decide) (by decide) (by decide)) (tc 5 (by decide) (by decide) (by decide) (by decide) (by decide)) (tc 6 (by decide) (by decide) (by decide) (by decide) (by decide)) (tc 8 (by decide) (by decide) (by decide) (by decide) (by decide)), Lea_e hL rfl rfl (ts 15 (by decide) (by decide)) (tc 4 (by decide) (by decide) (by decide) (by decide) (by decide)) (tc 9 (by decide) (by decide) (by decide) (by decide) (by decide)), hR, Cur_trv hC p d, His_trv hI hC (fun i hi => Rws_mono hR (by omega) (Nat.le_refl _)) p d e1 e2, Ppl_trv hP w p d, Inv_e hV (tc 27 (by decide) (by decide) (by decide) (by decide) (by decide)) (tc 28 (by decide) (by decide) (by decide) (by decide) (by decide)) (ts 20 (by decide) (by decide)) (ts 29 (by decide) (by decide)) (ts 30 (by decide) (by decide)) rfl rfl⟩
theorem Frm_trv (t : St) (w : Nat) (p : Nat → Int32) (d : Nat) : Frm t (trv t w p d) := ⟨fun c a0 a1 a2 a3 a4 _ _ _ _ _ => trv_c t w p a0 a1 a2 a3 a4 d, fun i a b _ _ _ _ _ _ => trv_s t w p a b d⟩
/-- the reference walks d steps -/
theorem RR_travel {h r t : St} {j w nr nl hf fl to : Nat} {cp : Nat → Nat} (rc : Int32 → Int32 → St → Option St) (k : Int32) (H : RR h r t j w nr nl hf cp) (h1 : fl < 10) (h2 : to < 10) (d n : Nat) (hd : d ≤ far fl to) (hw : w + d < 256) (hlo : ∀ i, i < d → lo fl to i ≠ hf) (cp2 : Nat → Nat) (e1 : ∀ g, g ≤ w - whn r j → cp2 g = cp g) (e2 : ∀ g, 1 ≤ g → g ≤ d → 2 * ps fl to g = cp2 (w - whn r j + g)) : ∃ t', fX9_runs_23 rc (n + d) (nI fl) k (nI to) t = fX9_runs_23 rc n (nI (ps fl to d)) k (nI to) t' ∧ RR h r t' j (w + d) nr nl hf cp2 ∧ Frm t t' := by
  obtain ⟨hH, hL, hR, hC, hI, hP, hV⟩ := id H
  exact ⟨_, f_travel rc t k h1 h2 hH.2.2.1.2.1 (by have := hH.2.2.1.2.2; omega) hH.1.2.1 hH.1.2.2 hC.1 hC.2.2.2.2.2.2.2.2.2.2.2 (Cur_ab hC hL) d n hd hw hlo, RR_trv H _ d cp2 e1 (fun g a b => by rw [e2 g a b]), Frm_trv _ _ _ _⟩
theorem RR_half {h r t : St} {wt : Int32} {j w nr nl hf : Nat} {cp : Nat → Nat} (H : RR h r t j w nr nl hf cp) (hw2 : w + 1 < 256) (hwt : ∀ k, k < 32 → bt wt k = wtM t nl k) (hcp : ∀ g, g ≤ w - whn r j → cp g = plf (pN r j) (2 * hf + 1) g) : ∃ t', fX9_haltsHalf t wt = some t' ∧ whn (halfR h r j (nI (w + 1)) (nI (2 * hf + 1)) wt nl) (j + 1) = w + 1 ∧ pN (halfR h r j (nI (w + 1)) (nI (2 * hf + 1)) wt nl) (j + 1) = 2 * hf + 1 ∧ RR h (halfR h r j (nI (w + 1)) (nI (2 * hf + 1)) wt nl) t' (j + 1) (w + 1) nr nl hf (fun _ => 2 * hf + 1) ∧ Frm t t' := by
  obtain ⟨hH, hL, hR, hC, hI, hP, hV⟩ := id H
  obtain ⟨t', q1, q2, q3, q4, q5, q6, q7, q8, q9, q10⟩ := half_keeps hH hL hR hC hI hP hw2 hwt hcp
  obtain ⟨n2, n3, n4, n5, n6, n7, n8, n9, n0, n10, n12⟩ := halfR_new h r j (nI (w + 1)) (nI (2 * hf + 1)) wt nl
  refine ⟨t', q1, q5, q6, ⟨q2, q3, q4, q7, q8, q9, ?_⟩, q10⟩
  -- what half leaves as it was
  obtain ⟨⟨hr1, hr2, hr8⟩, ⟨hl1, hl2, hl8⟩, ⟨hf1, hf2, hf8⟩, hlim, -, -, -, -⟩ := id hH
  obtain ⟨c1, c2, c3, c4, c5, c6, c7, c8, c9, c10, c11, c12⟩ := id hC
  have wtl : ∀ k, k < nl → bt wt k = true → bt (t 0 21) k = false := by
    intro k hk hb
    rw [hwt k (by omega)] at hb
    unfold wtM at hb
    simp only [Bool.and_eq_true, decide_eq_true_eq, Bool.not_eq_true'] at hb
    exact hb.2.2
  have hsub : t 0 21 ||| t 0 19 = t 0 21 := sub_of (fun k hk hb => by rw [c5 k hk]; rw [c4] at hb; rw [hb]; rfl)
  have hHH := f_haltsHalf t wt hl2 hl8 hr2 hr8 c1 hw2 (fun k hk hb => ⟨wtl k hk hb, by obtain ⟨q, h1, h2⟩ := hL.1 k hk; exact ⟨q, by omega, h2⟩⟩) hsub (Cur_ab hC hL)
  rw [hHH] at q1
  cases q1
  have u : ∀ a c, c ≠ 0 → c ≠ 23 → c ≠ 24 → c ≠ 25 → c ≠ 26 → c ≠ 32 → c ≠ 33 → tN2 (tW (hhT t w a) (w + 1)) nr nr c = t c := by
    intro a c a0 a1 a2 a3 a4 a5 a6
    rw [tN2_c _ _ a5 a6]
    unfold tW
    rw [up_o a4, up_o a3, up_o a2, up_o a1, hhT_c _ _ _ a0]
  exact Inv_e hV (u _ 27 (by decide) (by decide) (by decide) (by decide) (by decide) (by decide) (by decide)) (u _ 28 (by decide) (by decide) (by decide) (by decide) (by decide) (by decide) (by decide)) rfl rfl rfl n5 n8
/-- the end of the way -/
theorem RR_floor {h r t : St} {j w nr nl hf f : Nat} {cp : Nat → Nat} (rc : Int32 → Int32 → St → Option St) (k : Int32) (n : Nat) (H : RR h r t j w nr nl hf cp) (hw2 : w + 1 < 256) (hf9 : f < 10) (hcp : ∀ g, g ≤ w - whn r j → cp g = plf (pN r j) (2 * f) g) : ∃ t', fX9_runs_23 rc (n + 1) (nI f) k (nI f) t = rc (nI f) (k + 1) t' ∧ whn (haltR h r j (nI (w + 1)) f nr) (j + 1) = w + 1 ∧ pN (haltR h r j (nI (w + 1)) f nr) (j + 1) = 2 * f ∧ RR h (haltR h r j (nI (w + 1)) f nr) t' (j + 1) (w + 1) nr nl hf (fun _ => 2 * f) ∧ Frm t t' := by
  obtain ⟨hH, hL, hR, hC, hI, hP, hV⟩ := H
  obtain ⟨t', q1, q2, q3, q4, q5, q6, q7, q8, q9, q10, q11⟩ := floor_keeps hH hL hR hC hI hP hV hw2 hf9 hcp
  refine ⟨t', ?_, q5, q6, ⟨q2, q3, q4, q7, q8, q9, q10⟩, q11⟩
  rw [fX9_runs_23, if_pos rfl, q1, bd1_s, stp_n]
theorem ps_0 (fl to : Nat) : ps fl to 0 = fl := by unfold ps; split <;> omega
theorem ps_far (fl to : Nat) : ps fl to (far fl to) = to := by unfold ps far; split <;> split <;> omega
theorem plf_fl {fl to g : Nat} (hg : g ≤ far fl to) : 2 * ps fl to g = plf (2 * fl) (2 * to) g := by
  unfold plf ps
  unfold far at hg
  by_cases c0 : g = 0
  · rw [if_pos c0]; split <;> omega
  · rw [if_neg c0]
    have e : 2 * fl % 2 = 0 := by omega
    rw [if_pos e, if_pos e]
    by_cases c : fl < to
    · rw [if_pos c, if_pos (by omega)]; omega
    · rw [if_neg c, if_neg (by omega)]; split at hg <;> omega
theorem plf_hf {fl to hf g : Nat} (hp : passes fl to hf = true) (hg : g ≤ before fl to hf) : 2 * ps fl to g = plf (2 * fl) (2 * hf + 1) g := by
  simp only [passes, Bool.or_eq_true, Bool.and_eq_true, decide_eq_true_eq] at hp
  unfold plf ps
  unfold before at hg
  have e : 2 * fl % 2 = 0 := by omega
  by_cases c0 : g = 0
  · rw [if_pos c0]; split <;> omega
  · rw [if_neg c0, if_pos e, if_pos e]
    by_cases c : fl < to
    · rw [if_pos c, if_pos (by omega)]; omega
    · rw [if_neg c, if_neg (by omega)]; split at hg <;> omega
theorem plf_af {fl to hf g : Nat} (hp : passes fl to hf = true) (hg : g ≤ far fl to - before fl to hf) : (if g = 0 then 2 * hf + 1 else 2 * ps fl to (before fl to hf + g)) = plf (2 * hf + 1) (2 * to) g := by
  simp only [passes, Bool.or_eq_true, Bool.and_eq_true, decide_eq_true_eq] at hp
  unfold plf ps
  unfold before far at hg
  unfold before
  have e : ¬ (2 * hf + 1) % 2 = 0 := by omega
  by_cases c0 : g = 0
  · rw [if_pos c0, if_pos c0]
  · rw [if_neg c0, if_neg c0, if_neg e, if_neg e]
    by_cases c : fl < to
    · rw [if_pos c, if_pos (by omega), if_pos (by omega)]; omega
    · rw [if_neg c, if_neg (by omega), if_neg (by omega)]
      rw [if_neg (by omega)] at hg
      split at hg <;> omega
theorem pass_far {fl to hf : Nat} (hp : passes fl to hf = true) : before fl to hf < far fl to ∧ (if ps fl to (before fl to hf) < to then ps fl to (before fl to hf) else ps fl to (before fl to hf) - 1) = hf ∧ nxt (ps fl to (before fl to hf)) to = ps fl to (before fl to hf + 1) ∧ ps fl to (before fl to hf) ≠ to ∧ (∀ i, i < before fl to hf → lo fl to i ≠ hf) := by
  simp only [passes, Bool.or_eq_true, Bool.and_eq_true, decide_eq_true_eq] at hp
  unfold before far ps nxt lo
  by_cases c : fl < to
  · have c1 : fl ≤ hf := by omega
    simp only [if_pos c, if_pos c1, if_pos (show fl ≤ to by omega)]
    have c2 : fl + (hf - fl) < to := by omega
    rw [if_pos c2, if_pos c2]
    exact ⟨by omega, by omega, by omega, by omega, fun i hi => by omega⟩
  · have c1 : ¬ fl ≤ hf := by omega
    have c3 : ¬ fl ≤ to := by omega
    simp only [if_neg c, if_neg c1, if_neg c3]
    have c2 : ¬ fl - (fl - hf - 1) < to := by omega
    rw [if_neg c2, if_neg c2]
    exact ⟨by omega, by omega, by omega, by omega, fun i hi => by omega⟩
theorem pass_rest {fl to hf : Nat} (h1 : fl < 10) (h2 : to < 10) (hp : passes fl to hf = true) : ps fl to (before fl to hf + 1) < 10 ∧ far (ps fl to (before fl to hf + 1)) to = far fl to - before fl to hf - 1 ∧ (∀ g, g ≤ far fl to - before fl to hf - 1 → ps (ps fl to (before fl to hf + 1)) to g = ps fl to (before fl to hf + 1 + g)) ∧ (∀ i, i < far fl to - before fl to hf - 1 → lo (ps fl to (before fl to hf + 1)) to i ≠ hf) := by
  simp only [passes, Bool.or_eq_true, Bool.and_eq_true, decide_eq_true_eq] at hp
  unfold before far ps lo
  by_cases c : fl < to
  · have c1 : fl ≤ hf := by omega
    simp only [if_pos c, if_pos c1, if_pos (show fl ≤ to by omega)]
    refine ⟨by omega, ?_, fun g hg => ?_, fun i hi => ?_⟩
    · rw [if_pos (by omega)]; omega
    · by_cases c2 : fl + (hf - fl + 1) < to
      · rw [if_pos c2]; omega
      · rw [if_neg c2]; omega
    · by_cases c2 : fl + (hf - fl + 1) < to
      · rw [if_pos c2]; omega
      · rw [if_neg c2]; omega
  · have c1 : ¬ fl ≤ hf := by omega
    have c3 : ¬ fl ≤ to := by omega
    simp only [if_neg c, if_neg c1, if_neg c3]
    refine ⟨by omega, ?_, fun g hg => ?_, fun i hi => ?_⟩
    · by_cases c2 : fl - (fl - hf - 1 + 1) ≤ to
      · rw [if_pos c2]; omega
      · rw [if_neg c2]; omega
    · rw [if_neg (by omega)]; omega
    · rw [if_neg (by omega)]; omega
theorem nopass {fl to hf : Nat} (hp : passes fl to hf = false) : ∀ i, i < far fl to → lo fl to i ≠ hf := by
  simp only [passes, Bool.or_eq_false_iff, Bool.and_eq_false_iff, decide_eq_false_iff_not] at hp
  intro i hi
  unfold far at hi
  unfold lo
  by_cases c : fl < to
  · rw [if_pos c]; rw [if_pos (by omega)] at hi; omega
  · rw [if_neg c]; split at hi <;> omega
