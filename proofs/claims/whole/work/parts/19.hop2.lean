theorem far_lt {fl to : Nat} (h1 : fl < 10) (h2 : to < 10) : far fl to < 10 := by unfold far; split <;> omega
theorem Lw_halt (h r : St) (j : Nat) (s : Int32) (f : Nat) {nr : Nat} (h8 : nr ≤ 8) (hz : ¬ haltR h r j s f nr 9 (j + 1) = 0) : ¬ lowS (haltR h r j s f nr 9 (j + 1)) 8 = -1 := by
  rw [(haltR_new h r j s f nr).2.2.2.2.2.2.2.1] at hz ⊢
  obtain ⟨k, hk, hb⟩ := bt_ne hz
  refine lowS_some (by omega) ⟨k, ?_, hb⟩
  unfold liF at hb
  rw [(liS_bits _ _ _ _ _ hk (by omega)).2] at hb
  simp only [Bool.and_eq_true, decide_eq_true_eq] at hb
  omega
theorem whn_e {r r' : St} {i : Nat} (h : r' 2 i = r 2 i) : whn r' i = whn r i := by unfold whn; rw [h]
theorem pN_e {r r' : St} {i : Nat} (h : r' 3 i = r 3 i) : pN r' i = pN r i := by unfold pN; rw [h]
theorem RR_hop {h r t : St} {j w nr nl hf fl to : Nat} (rc : Int32 → Int32 → St → Option St) (k : Int32) (H : RR h r t j w nr nl hf (fun _ => 2 * fl)) (hw0 : whn r j = w) (hp0 : pN r j = 2 * fl) (h1 : fl < 10) (h2 : to < 10) (hj : j + 2 < 45) (hw : w + 12 < 256) :
    ∃ r' t' j' w', fX4_goTo h r (nI to) = some r' ∧ fX9_runs_23 rc 300 (nI fl) k (nI to) t = rc (nI to) (k + 1) t' ∧ RR h r' t' j' w' nr nl hf (fun _ => 2 * to) ∧ whn r' j' = w' ∧ pN r' j' = 2 * to ∧ j < j' ∧ j' ≤ j + 2 ∧ w < w' ∧ w' ≤ w + 11 ∧ Frm t t' ∧ r' 0 10 = r 0 10 ∧ r' 12 = r 12 ∧ (∀ c i, c ≠ 0 → i ≤ j → r' c i = r c i) ∧ (∀ i, j < i → i ≤ j' → ¬ r' 9 i = 0 → ¬ lowS (r' 9 i) 8 = -1) ∧ (∀ i, j ≤ i → i < j' → ¬ pN r' i < pN r' (i + 1) → 2 * (whn r' (i + 1) - whn r' i - 1) ≤ pN r' i + 1) ∧ (∀ i q, j ≤ i → i < j' → bt (r' 8 i) q = true → bt (r' 8 (i + 1)) q = true) ∧ ∀ i q, j < i → i ≤ j' → q < 32 → bt (r' 6 i) q = true → q < nl := by
  obtain ⟨hH, hL, hR, hC, hI, hP, hV⟩ := id H
  obtain ⟨⟨hr1, hr2, hr8⟩, ⟨hl1, hl2, hl8⟩, ⟨hf1, hf2, hf8⟩, hlim, -, hat, -, -⟩ := id hH
  obtain ⟨r9, rW, -, -⟩ := id hR
  obtain ⟨rw1, rw2, rw3, rw4⟩ := rW j (Nat.le_refl _)
  rw [hw0] at rw1
  rw [hp0] at rw3
  obtain ⟨wt, ewt, bwt⟩ := f_waitingBy h r (nI (w + before fl to hf)) (j := j) (nl := nl) r9 (by omega) hl1 hl8 (fun q hq => by
    by_cases c : q < 32
    · rw [hL.2.1 q c]; simp [show ¬ q < nl by omega]
    · exact bt_ge _ (by omega))
  have g := f_goTo h r wt hf1 h1 h2 (by omega) r9 (by omega) rw1 (by omega) rw3 hl1 hl8 hr1 hr8 ewt
  have hfl := far_lt h1 h2
  cases hp : passes fl to hf
  · -- no halt on the way
    rw [hp] at g
    simp only [Bool.false_eq_true, false_and, if_false] at g
    obtain ⟨t1, q1, q2, F1⟩ := RR_travel rc k H h1 h2 (far fl to) (299 - far fl to + 1) (Nat.le_refl _) (by omega) (nopass hp) (fun g => 2 * ps fl to g) (fun g hg => by
      rw [show g = 0 by omega, ps_0]) (fun g a b => by rw [show w - whn r j + g = g by omega])
    rw [show 299 - far fl to + 1 + far fl to = 300 by omega, ps_far] at q1
    obtain ⟨t2, p1, p2, p3, p4, F4⟩ := RR_floor rc k (299 - far fl to) q2 (by omega) h2 (fun g hg => by
      rw [hp0]; exact plf_fl (by omega))
    exact ⟨_, t2, j + 1, w + far fl to + 1, g, by rw [q1, p1], p4, p2, p3, by omega, by omega, by omega, by omega, F1.tr F4, (haltR_new h r j _ to nr).2.2.2.2.2.2.2.2.2.1, (haltR_new h r j _ to nr).2.2.2.2.2.2.2.2.2.2, fun c i hc hi => haltR_old h r j _ to nr (by omega) hc, fun i h1 h2 hz => by
        have e : i = j + 1 := by omega
        subst e
        exact Lw_halt h r j _ to hr8 hz, fun i h1 h2 hz => by
        have e : i = j := by omega
        subst e
        rw [p2, p3] at *
        rw [whn_e (haltR_old h r i _ to nr (by omega) (by decide)), pN_e (haltR_old h r i _ to nr (by omega) (by decide)), hw0, hp0] at *
        unfold far
        split <;> omega, fun i q h1 h2 hb => by
        have e : i = j := by omega
        rw [e] at hb ⊢
        rw [haltR_old h r j _ to nr (by omega) (by decide)] at hb
        rw [(haltR_new h r j _ to nr).2.2.2.2.2.2.1, bt_or, hb]; rfl, fun i q h1 h2 hq hb => by
        have e : i = j + 1 := by omega
        rw [e] at hb
        exact (p4.2.2.2.1.2.2.2.2.2.2.2.1 q hq hb).1⟩
  · obtain ⟨b1, b2, b3, b4, b5⟩ := pass_far hp
    obtain ⟨d1, d2, d3, d4⟩ := pass_rest h1 h2 hp
    have hb1 : ps fl to (before fl to hf) < 10 := by
      have := b1
      unfold ps; unfold far at this
      by_cases c : fl < to
      · rw [if_pos c]; rw [if_pos (by omega)] at this; omega
      · rw [if_neg c]; omega
    generalize hB : before fl to hf = B at *
    obtain ⟨t1, q1, q2, F1⟩ := RR_travel rc k H h1 h2 B (299 - B + 1) (by omega) (by omega) b5 (fun g => 2 * ps fl to g) (fun g hg => by
      rw [show g = 0 by omega, ps_0]) (fun g a b => by rw [show w - whn r j + g = g by omega])
    rw [show 299 - B + 1 + B = 300 by omega] at q1
    obtain ⟨hH1, hL1, hR1, hC1, hI1, hP1, hV1⟩ := id q2
    -- who waits there: the same for both
    obtain ⟨wt1, ewt1, bwt1⟩ := f_waiting t1 hH1.2.1.2.1 hl8
    have ewq : wt1 = wt := by
      apply bt_ext
      intro q hq
      rw [bwt q hq, bwt1 q hq]
      unfold wtB wtM
      rw [hL1.2.1 q hq, hC1.2.2.2.2.1 q hq, hC1.1, hH1.1.2.1]
      by_cases c : q < nl
      · rw [hH1.2.2.2.2.2.1 q c]
        simp only [c, decide_true, Bool.true_and]
        cases bt (t1 0 15) q <;> cases decide (t1 9 q < nI nr) <;> cases decide (nI (w + B) < t1 8 q) <;> cases bt (r 6 j) q <;> cases bt (r 7 j) q <;> rfl
      · simp [c]
    subst ewq
    have e11 : t1 0 11 = nI hf := hH1.2.2.1.2.1
    have step := f_run_step rc t1 k (n := 299 - B) hb1 h2 b4 e11 (by omega)
    rw [if_pos b2, ewt1, bd1_s, b3] at step
    have hcpf : ∀ g, g ≤ w + B - whn r j → (fun g => 2 * ps fl to g) g = plf (pN r j) (2 * hf + 1) g := fun g hg => by
      rw [hp0]
      exact plf_hf hp (by omega)
    by_cases cw : wt1 = 0
    · -- nobody waits: it goes on
      rw [hp] at g
      simp only [cw, ne_eq, not_true_eq_false, and_false, if_false] at g
      rw [if_pos cw, f_move t1 _ (nr := nr) (w := w + B) hH1.1.2.1 hr8 hC1.1 (by omega) hC1.2.2.2.2.2.2.2.2.2.2.2 (Cur_ab hC1 hL1), bd1_s] at step
      have q3 : RR h r (mvT t1 (w + B) (nI (2 * ps fl to (B + 1)))) j (w + B + 1) nr nl hf (fun g => 2 * ps fl to g) := RR_trv q2 (fun _ => nI (2 * ps fl to (B + 1))) 1 _ (fun _ _ => rfl) (fun g a b => by
        rw [show w + B - whn r j + g = B + 1 by omega])
      obtain ⟨t3, s1, s2, F3⟩ := RR_travel rc k q3 d1 h2 (far fl to - B - 1) (299 - far fl to + 1) (by omega) (by omega) d4 (fun g => 2 * ps fl to g) (fun _ _ => rfl) (fun g a b => by
        rw [d3 g b, show w + B + 1 - whn r j + g = B + 1 + g by omega])
      rw [show 299 - far fl to + 1 + (far fl to - B - 1) = 299 - B by omega, ← d2, ps_far] at s1
      rw [show w + B + 1 + (far fl to - B - 1) = w + far fl to by omega] at s2
      obtain ⟨t4, p1, p2, p3, p4, F4⟩ := RR_floor rc k (299 - far fl to) s2 (by omega) h2 (fun g hg => by
        rw [hp0]; exact plf_fl (by omega))
      exact ⟨_, t4, j + 1, w + far fl to + 1, g, by rw [q1, step, s1, p1], p4, p2, p3, by omega, by omega, by omega, by omega, ((F1.tr (Frm_trv t1 (w + B) (fun _ => nI (2 * ps fl to (B + 1))) 1)).tr F3).tr F4, (haltR_new h r j _ to nr).2.2.2.2.2.2.2.2.2.1, (haltR_new h r j _ to nr).2.2.2.2.2.2.2.2.2.2, fun c i hc hi => haltR_old h r j _ to nr (by omega) hc, fun i h1 h2 hz => by
        have e : i = j + 1 := by omega
        subst e
        exact Lw_halt h r j _ to hr8 hz, fun i h1 h2 hz => by
        have e : i = j := by omega
        subst e
        rw [p2, p3] at *
        rw [whn_e (haltR_old h r i _ to nr (by omega) (by decide)), pN_e (haltR_old h r i _ to nr (by omega) (by decide)), hw0, hp0] at *
        unfold far
        split <;> omega, fun i q h1 h2 hb => by
        have e : i = j := by omega
        rw [e] at hb ⊢
        rw [haltR_old h r j _ to nr (by omega) (by decide)] at hb
        rw [(haltR_new h r j _ to nr).2.2.2.2.2.2.1, bt_or, hb]; rfl, fun i q h1 h2 hq hb => by
        have e : i = j + 1 := by omega
        rw [e] at hb
        exact (p4.2.2.2.1.2.2.2.2.2.2.2.1 q hq hb).1⟩
    · -- a halt at HALF
      rw [hp] at g
      simp only [ne_eq, cw, not_false_eq_true, and_self, if_true] at g
      obtain ⟨t2, v1, v2, v3, v4, F2⟩ := RR_half q2 (by omega) bwt1 hcpf
      rw [if_neg cw, v1, bd1_s] at step
      obtain ⟨-, -, -, -, -, -, m8, m9, -, m10, m12⟩ := halfR_new h r j (nI (w + B + 1)) (nI (2 * hf + 1)) wt1 nl
      have mold : ∀ c i, c ≠ 0 → i ≤ j → halfR h r j (nI (w + B + 1)) (nI (2 * hf + 1)) wt1 nl c i = r c i := fun c i hc hi => halfR_old h r j _ _ wt1 nl (by omega) hc
      generalize hR1e : halfR h r j (nI (w + B + 1)) (nI (2 * hf + 1)) wt1 nl = r1 at *
      obtain ⟨hH2, hL2, hR2, hC2, hI2, hP2, hV2⟩ := id v4
      rw [f_move t2 _ (nr := nr) (w := w + B + 1) hH2.1.2.1 hr8 hC2.1 (by omega) hC2.2.2.2.2.2.2.2.2.2.2.2 (Cur_ab hC2 hL2), bd1_s] at step
      have q3 : RR h r1 (mvT t2 (w + B + 1) (nI (2 * ps fl to (B + 1)))) (j + 1) (w + B + 1 + 1) nr nl hf (fun g => if g = 0 then 2 * hf + 1 else 2 * ps fl to (B + g)) := RR_trv v4 (fun _ => nI (2 * ps fl to (B + 1))) 1 _ (fun g hg => by
        rw [v2] at hg; rw [if_pos (by omega)]) (fun g a b => by
        rw [v2, if_neg (by omega), show B + (w + B + 1 - (w + B + 1) + g) = B + 1 by omega])
      obtain ⟨t3, s1, s2, F3⟩ := RR_travel rc k q3 d1 h2 (far fl to - B - 1) (299 - far fl to + 1) (by omega) (by omega) d4 (fun g => if g = 0 then 2 * hf + 1 else 2 * ps fl to (B + g)) (fun _ _ => rfl) (fun g a b => by
        rw [d3 g b, v2, if_neg (by omega), show B + (w + B + 1 + 1 - (w + B + 1) + g) = B + 1 + g by omega])
      rw [show 299 - far fl to + 1 + (far fl to - B - 1) = 299 - B by omega, ← d2, ps_far] at s1
      rw [show w + B + 1 + 1 + (far fl to - B - 1) = w + far fl to + 1 by omega] at s2
      obtain ⟨t4, p1, p2, p3, p4, F4⟩ := RR_floor rc k (299 - far fl to) s2 (by omega) h2 (fun g hg => by
        rw [v3]
        have := plf_af (g := g) hp (by rw [hB]; omega)
        rw [hB] at this
        exact this)
      exact ⟨_, t4, j + 1 + 1, w + far fl to + 1 + 1, g, by rw [q1, step, s1, p1], p4, p2, p3, by omega, by omega, by omega, by omega, (((F1.tr F2).tr (Frm_trv t2 (w + B + 1) (fun _ => nI (2 * ps fl to (B + 1))) 1)).tr F3).tr F4, (haltR_new h r1 (j + 1) _ to nr).2.2.2.2.2.2.2.2.2.1.trans m10, (haltR_new h r1 (j + 1) _ to nr).2.2.2.2.2.2.2.2.2.2.trans m12, fun c i hc hi => (haltR_old h r1 (j + 1) _ to nr (by omega) hc).trans (mold c i hc hi), fun i h1 h2 hz => by
        by_cases e : i = j + 1
        · subst e
          rw [haltR_old h r1 (j + 1) _ to nr (by omega) (by decide), m9] at hz
          exact absurd rfl hz
        · have e2 : i = j + 1 + 1 := by omega
          subst e2
          exact Lw_halt h r1 (j + 1) _ to hr8 hz, fun i h1 h2 hz => by
        simp only [passes, Bool.or_eq_true, Bool.and_eq_true, decide_eq_true_eq] at hp
        unfold before at hB
        have hfar : far fl to = if fl ≤ to then to - fl else fl - to := rfl
        have hold : ∀ c i, c ≠ 0 → i ≠ j + 1 + 1 → haltR h r1 (j + 1) (nI (w + far fl to + 2)) to nr c i = r1 c i := fun c i hc hi => haltR_old h r1 (j + 1) _ to nr hi hc
        have p2' : whn (haltR h r1 (j + 1) (nI (w + far fl to + 2)) to nr) (j + 1 + 1) = w + far fl to + 1 + 1 := p2
        have p3' : pN (haltR h r1 (j + 1) (nI (w + far fl to + 2)) to nr) (j + 1 + 1) = 2 * to := p3
        have a1 := whn_e (hold 2 (j + 1) (by decide) (by omega))
        have a2 := pN_e (hold 3 (j + 1) (by decide) (by omega))
        have a3 := whn_e (hold 2 j (by decide) (by omega))
        have a4 := pN_e (hold 3 j (by decide) (by omega))
        have a5 := whn_e (mold 2 j (by decide) (Nat.le_refl _))
        have a6 := pN_e (mold 3 j (by decide) (Nat.le_refl _))
        have hi : i = j ∨ i = j + 1 := by clear p2' p3' a1 a2 a3 a4 a5 a6; omega
        rcases hi with e | e
        · rw [e] at hz ⊢
          rw [a1, a3, a4, a5, a6, hw0, hp0, v2]
          rw [a2, a4, a6, hp0, v3] at hz
          split at hB <;> omega
        · rw [e] at hz ⊢
          rw [p2', a1, a2, v2, v3]
          rw [a2, p3', v3] at hz
          split at hB <;> split at hfar <;> omega, fun i q h1 h2 hb => by
        by_cases e : i = j
        · rw [e] at hb ⊢
          rw [haltR_old h r1 (j + 1) _ to nr (by omega) (by decide), mold 8 j (by decide) (Nat.le_refl _)] at hb
          rw [haltR_old h r1 (j + 1) _ to nr (by omega) (by decide), m8]
          exact hb
        · have e2 : i = j + 1 := by omega
          rw [e2] at hb ⊢
          rw [haltR_old h r1 (j + 1) _ to nr (by omega) (by decide)] at hb
          rw [(haltR_new h r1 (j + 1) _ to nr).2.2.2.2.2.2.1, bt_or, hb]; rfl, fun i q h1 h2 hq hb => by
        by_cases e : i = j + 1
        · rw [e, haltR_old h r1 (j + 1) _ to nr (by omega) (by decide)] at hb
          exact (hC2.2.2.2.2.2.2.2.1 q hq hb).1
        · have e2 : i = j + 1 + 1 := by omega
          rw [e2] at hb
          exact (p4.2.2.2.1.2.2.2.2.2.2.2.1 q hq hb).1⟩
