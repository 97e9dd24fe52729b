theorem wtF_b {h r t : St} {j w f nr nl hf : Nat} (hH : Hou h t nr nl hf) (hC : Cur r t j w nr nl) (hf9 : f < 10) {k : Nat} (hk : k < 32) : bt (wtF h r j f) k = (decide (k < nr) && (decide (t 5 k = nI f) && !(bt (r 5 j) k || bt (r 8 j) k))) ∧ (k < nr → bt (wtF h r j f) k = (decide (t 5 k = nI f) && !decide (t 6 k = nI f) && !bt (t 0 20) k)) := by
  obtain ⟨c1, c2, c3, c4, c5, c6, c7, c8, c9, c10, c11, c12⟩ := hC
  have e1 : bt (wtF h r j f) k = (decide (k < nr) && (decide (t 5 k = nI f) && !(bt (r 5 j) k || bt (r 8 j) k))) := by
    unfold wtF outM
    rw [bt_and, bt_not _ hk, bt_or, bt_or, bt_and, bt_not _ hk, bt_and, (hH.2.2.2.2.2.2.1 f k hf9 hk).1]
    generalize bt (h 14 f) k = z
    cases decide (k < nr) <;> cases decide (t 5 k = nI f) <;> cases bt (r 5 j) k <;> cases bt (r 8 j) k <;> cases z <;> rfl
  refine ⟨e1, fun hkn => ?_⟩
  rw [e1, c6 k hk]
  by_cases a : t 5 k = nI f
  · by_cases b : t 6 k = nI f
    · have : bt (r 8 j) k = true := c10 k hkn (by rw [a, b])
      simp [this, b]
    · have : ¬ t 5 k = t 6 k := fun z => b (by rw [← z]; exact a)
      simp [hkn, a, b, this]
      cases bt (r 5 j) k <;> cases bt (r 8 j) k <;> simp_all
  · simp [a]
theorem floor_keeps {h r t : St} {j w nr nl hf f : Nat} {cp : Nat → Nat} (hH : Hou h t nr nl hf) (hL : Lea r t nr nl) (hR : Rws r j) (hC : Cur r t j w nr nl) (hI : His r t j w cp) (hP : Ppl r t j nr) (hV : Inv r t j nr) (hw2 : w + 1 < 256) (hf9 : f < 10) (hcp : ∀ g, g ≤ w - whn r j → cp g = plf (pN r j) (2 * f) g) :
    ∃ t', fX9_haltsAt t (nI f) = some t' ∧ Hou h t' nr nl hf ∧ Lea (haltR h r j (nI (w + 1)) f nr) t' nr nl ∧ Rws (haltR h r j (nI (w + 1)) f nr) (j + 1) ∧ whn (haltR h r j (nI (w + 1)) f nr) (j + 1) = w + 1 ∧ pN (haltR h r j (nI (w + 1)) f nr) (j + 1) = 2 * f ∧ Cur (haltR h r j (nI (w + 1)) f nr) t' (j + 1) (w + 1) nr nl ∧ His (haltR h r j (nI (w + 1)) f nr) t' (j + 1) (w + 1) (fun _ => 2 * f) ∧ Ppl (haltR h r j (nI (w + 1)) f nr) t' (j + 1) nr ∧ Inv (haltR h r j (nI (w + 1)) f nr) t' (j + 1) nr ∧ Frm t t' := by
  obtain ⟨⟨hr1, hr2, hr8⟩, ⟨hl1, hl2, hl8⟩, ⟨hf1, hf2, hf8⟩, hlim, hppl, -, hse, -⟩ := id hH
  obtain ⟨c1, c2, c3, c4, c5, c6, c7, c8, c9, c10, c11, c12⟩ := id hC
  have hab := Cur_ab hC hL
  have wtb := fun k (hk : k < 32) => wtF_b (j := j) (f := f) hH hC hf9 hk
  have hsub : t 0 20 ||| t 0 18 = t 0 20 := sub_of (fun k hk hb => by
    rw [c3] at hb
    obtain ⟨h1, h2⟩ := c7 k hk hb
    rw [c6 k hk, hb]; simp [h1, h2])
  have hHA := f_haltsAt t (wtF h r j f) (f := f) hr2 hr8 c1 hw2 hf9 (fun k hk => (wtb k (by omega)).2 hk) hsub hab
  -- the masks and weights of both
  have erid := rid1_eq hH hf9 c3
  have egone := gone_eq (f := f) c4
  have outb : ∀ k, k < 32 → bt (outM h r j f) k = (bt (r 5 j) k && (decide (k < nr) && decide (t 6 k = nI f))) := fun k hk => by
    unfold outM; rw [bt_and, (hse f k hf9 hk).2]
  have goneb : ∀ k, bt (goneM r j f) k = true → bt (r 6 j) k = true := fun k hb => by
    unfold goneM at hb
    by_cases c : f = 0
    · rw [if_pos c] at hb; exact hb
    · rw [if_neg c, bt_zero] at hb; cases hb
  have eld : ldM (goT (hfT t w f) (nI f) (w + 1) nr) = loS (outM h r j f) (goneM r j f) (h 7) (r 12) (r 4 j) 8 := by
    rw [loS_ld, c11]
    have e1 : ldM (goT (hfT t w f) (nI f) (w + 1) nr) = ldS (rdS (t 0 18) (nI f) (t 6) nr) (if f = 0 then 0 else t 0 19) (t 4) (ahM t) 8 := rfl
    rw [e1, erid, egone]
    have e2 : ldS (outM h r j f) (goneM r j f) (h 7) (r 12) 8 = ldS (outM h r j f) (goneM r j f) (t 4) (ahM t) 8 := by
      refine ldS_e (fun _ _ => rfl) (fun _ _ => rfl) (fun k hk hb => ?_) (fun k hk hb => ?_)
      · rw [outb k (by omega)] at hb
        simp at hb
        exact (hppl k hb.2.1).1
      · obtain ⟨a1, a2⟩ := c8 k (by omega) (goneb k hb)
        exact hL.2.2 k a1 a2
    have e3 : ldM t = ldS (r 5 j &&& (outM h r j f ^^^ (-1))) (r 6 j &&& (goneM r j f ^^^ (-1))) (t 4) (ahM t) 8 + ldS (outM h r j f) (goneM r j f) (t 4) (ahM t) 8 := by
      unfold ldM
      rw [c3, c4]
      refine ldS_split (t 4) (ahM t) (fun k hk => ?_) (fun k hk => ?_)
      · rw [bt_and, bt_not _ (by omega), outb k (by omega)]
        generalize (decide (k < nr) && decide (t 6 k = nI f)) = z
        cases bt (r 5 j) k <;> cases z <;> simp
      · rw [bt_and, bt_not _ (by omega)]
        have := goneb k
        cases h1 : bt (r 6 j) k <;> cases h2 : bt (goneM r j f) k <;> simp_all
    rw [e2, e3]
    exact (Int32.add_sub_cancel _ _).symm
  have ela : liS (wtF h r j f) (t 0 12) (t 4) (rdS (t 0 18) (nI f) (t 6) nr) (ldM (goT (hfT t w f) (nI f) (w + 1) nr)) 0 nr = liF h r j f nr := by
    unfold liF
    rw [erid, eld, hlim]
    exact liS_e (fun k hk hb => ((hppl k hk).1).symm)
  have eli : ∀ k, k ≤ nr → liS (wtF h r j f) (t 0 12) (t 4) (rdS (t 0 18) (nI f) (t 6) nr) (ldM (goT (hfT t w f) (nI f) (w + 1) nr)) 0 k = liS (wtF h r j f) (t 0 12) (t 4) (rdS (t 0 18) (nI f) (t 6) nr) (ldM (goT (hfT t w f) (nI f) (w + 1) nr)) 0 k := fun _ _ => rfl
  have lib := fun k (hk : k < 32) => liS_bits (wtF h r j f) (t 0 12) (t 4) (rdS (t 0 18) (nI f) (t 6) nr) (ldM (goT (hfT t w f) (nI f) (w + 1) nr)) hk (l := nr) (by omega)
  have r1b : ∀ k, k < 32 → bt (rdS (t 0 18) (nI f) (t 6) nr) k = (bt (r 5 j) k && !bt (outM h r j f) k) := fun k hk => by rw [erid, bt_and, bt_not _ hk]
  have wnot : ∀ k, k < nr → bt (wtF h r j f) k = true → bt (rdS (t 0 18) (nI f) (t 6) nr) k = false := fun k hk hb => by
    rw [(wtb k (by omega)).1] at hb
    rw [r1b k (by omega)]
    cases e : bt (r 5 j) k
    · rfl
    · rw [e] at hb; simp at hb
  have hld := liS_ld (wtF h r j f) (t 0 12) (if f = 0 then 0 else t 0 19) (t 4) (ahM t) (rdS (t 0 18) (nI f) (t 6) nr) (ldM (goT (hfT t w f) (nI f) (w + 1) nr)) 0 hr8 wnot rfl (l := nr) (Nat.le_refl _)
  have hfu := fuS_v (wtF h r j f) (t 0 12) (t 4) (rdS (t 0 18) (nI f) (t 6) nr) (ldM (goT (hfT t w f) (nI f) (w + 1) nr)) (nI (w + 1)) (t 0 29) (t 0 30) (nI_nm (by omega)) (n := nr) hr8
  rw [ela] at lib hld hfu
  obtain ⟨n2, n3, n4, n5, n6, n7, n8, n9, n0, n10, n12⟩ := haltR_new h r j (nI (w + 1)) f nr
  have old : ∀ c i, i ≤ j → c ≠ 0 → haltR h r j (nI (w + 1)) f nr c i = r c i := fun c i hi hc => haltR_old h r j _ f nr (by omega) hc
  refine ⟨_, hHA, ?_⟩
  -- the reference's store behind it
  have u : ∀ c, c ≠ 0 → c ≠ 23 → c ≠ 24 → c ≠ 25 → c ≠ 26 → c ≠ 27 → c ≠ 28 → c ≠ 29 → c ≠ 32 → c ≠ 33 → tN2 (tW (haT t w f (wtF h r j f) nr) (w + 1)) nr nr c = t c := by
    intro c a0 a1 a2 a3 a4 b1 b2 b3 a5 a6
    rw [tN2_c _ _ a5 a6]
    unfold tW haT gtT
    rw [up_o a4, up_o a3, up_o a2, up_o a1, bdT_c _ _ _ _ _ _ _ a0 b1 b3, goT_c _ _ _ _ a0 b2, hfT_c _ _ _ a0]
  have u4 := u 4 (by decide) (by decide) (by decide) (by decide) (by decide) (by decide) (by decide) (by decide) (by decide) (by decide)
  have u5 := u 5 (by decide) (by decide) (by decide) (by decide) (by decide) (by decide) (by decide) (by decide) (by decide) (by decide)
  have u6 := u 6 (by decide) (by decide) (by decide) (by decide) (by decide) (by decide) (by decide) (by decide) (by decide) (by decide)
  have u8 := u 8 (by decide) (by decide) (by decide) (by decide) (by decide) (by decide) (by decide) (by decide) (by decide) (by decide)
  have u9 := u 9 (by decide) (by decide) (by decide) (by decide) (by decide) (by decide) (by decide) (by decide) (by decide) (by decide)
  have s18 : tN2 (tW (haT t w f (wtF h r j f) nr) (w + 1)) nr nr 0 18 = (liF h r j f nr).1 := by rw [← ela]; rfl
  have s20 : tN2 (tW (haT t w f (wtF h r j f) nr) (w + 1)) nr nr 0 20 = t 0 20 ||| (liF h r j f nr).1 := by rw [← ela]; rfl
  have s19 : tN2 (tW (haT t w f (wtF h r j f) nr) (w + 1)) nr nr 0 19 = r 6 j &&& (goneM r j f ^^^ (-1)) := by rw [← egone]; rfl
  have s29 : tN2 (tW (haT t w f (wtF h r j f) nr) (w + 1)) nr nr 0 29 = (fuS (wtF h r j f) (t 0 12) (t 4) (rdS (t 0 18) (nI f) (t 6) nr) (ldM (goT (hfT t w f) (nI f) (w + 1) nr)) (nI (w + 1)) (t 0 29) (t 0 30) nr).1 := rfl
  have s30 : tN2 (tW (haT t w f (wtF h r j f) nr) (w + 1)) nr nr 0 30 = (fuS (wtF h r j f) (t 0 12) (t 4) (rdS (t 0 18) (nI f) (t 6) nr) (ldM (goT (hfT t w f) (nI f) (w + 1) nr)) (nI (w + 1)) (t 0 29) (t 0 30) nr).2 := rfl
  rw [hfu] at s29 s30
  -- who is in
  have inb : ∀ k, k < 32 → bt (liF h r j f nr).1 k = true → k < nr ∧ ¬ t 5 k = t 6 k ∧ bt (r 8 j) k = false ∧ bt (outM h r j f) k = false := by
    intro k hk hb
    rw [(lib k hk).1, Bool.or_eq_true] at hb
    rcases hb with hb | hb
    · rw [r1b k hk] at hb
      simp only [Bool.and_eq_true, Bool.not_eq_true'] at hb
      exact ⟨(c7 k hk hb.1).1, (c7 k hk hb.1).2, hV.2.2.1 k hk hb.1, hb.2⟩
    · simp only [Bool.and_eq_true, decide_eq_true_eq] at hb
      have hw := hb.2.1
      rw [(wtb k hk).1] at hw
      simp only [Bool.and_eq_true, decide_eq_true_eq, Bool.not_eq_true', Bool.or_eq_false_iff] at hw
      refine ⟨hw.1, fun z => ?_, hw.2.2.2, ?_⟩
      · have := c10 k hw.1 z
        rw [hw.2.2.2] at this; cases this
      · rw [outb k hk, hw.2.2.1]; rfl
  have stay : ∀ k, k < 32 → bt (r 5 j) k = true → bt (outM h r j f) k = false → bt (liF h r j f nr).1 k = true := by
    intro k hk h1 h2
    rw [(lib k hk).1, r1b k hk, h1, h2]; rfl
  obtain ⟨R1, R2, R3, R4, R5⟩ := Rws_add (w := w + 1) (p := 2 * f) hR old n0 n2 (by omega) (by omega) n3 (by omega)
  have hst : ∀ p, p < nr → t 33 p ||| t 32 p = t 33 p := c12.2.1
  refine ⟨Hou_e hH ⟨rfl, rfl, rfl, rfl⟩ u4 u5 u6 u8, Lea_e hL n10 n12 rfl u4 u9, R1, R4, R5, ?_, ?_, ?_, ?_, ⟨u, fun i h1 h2 h3 h4 h5 h6 h7 h8 => ?_⟩⟩
  · refine ⟨rfl, by rw [R4]; exact Nat.le_refl _, by rw [n5, s18], by rw [n6, s19], fun k hk => ?_, fun k hk => ?_, fun k hk hb => ?_, fun k hk hb => ?_, fun k hk hb => ?_, fun k hk hb => ?_, ?_, stab_tN2 _ _⟩
    · show bt (t 0 21) k = _
      rw [c5 k hk, n6, n7, bt_and, bt_not _ hk, bt_or]
      have := goneb k
      cases h1 : bt (r 6 j) k <;> cases h2 : bt (goneM r j f) k <;> simp_all
    · rw [s20, bt_or, c6 k hk, n5, n8, bt_or, u5, u6]
      have i1 := inb k hk
      have i2 := stay k hk
      have i3 := outb k hk
      have i4 := c7 k hk
      cases h1 : bt (liF h r j f nr).1 k
      · cases h2 : bt (r 5 j) k
        · rw [h2] at i3; simp only [Bool.false_and] at i3
          rw [i3]; simp
        · cases h3 : bt (outM h r j f) k
          · rw [i2 h2 h3] at h1; cases h1
          · simp
      · obtain ⟨a1, a2, a3, a4⟩ := i1 h1
        simp [a1, a2]
    · rw [n5] at hb; rw [u5, u6]; exact ⟨(inb k hk hb).1, (inb k hk hb).2.1⟩
    · rw [n6, bt_and] at hb
      simp only [Bool.and_eq_true] at hb
      rw [n10]; exact c8 k hk hb.1
    · rw [n8, bt_or, Bool.or_eq_true] at hb
      rcases hb with hb | hb
      · exact c9 k hk hb
      · rw [outb k hk] at hb
        simp only [Bool.and_eq_true] at hb
        exact (c7 k hk hb.1).1
    · rw [u5, u6] at hb; rw [n8, bt_or, c10 k hk hb]; rfl
    · rw [n4]
      have : ldM (tN2 (tW (haT t w f (wtF h r j f) nr) (w + 1)) nr nr) = ldS (liF h r j f nr).1 (if f = 0 then 0 else t 0 19) (t 4) (ahM t) 8 := by rw [← ela]; rfl
      rw [this]
      exact hld.symm
  · refine His_add hI hR c2 old n2 (by omega) n3 (by omega) hcp (fun τ hτ => ?_) ?_
    · have ne : τ ≠ w + 1 := by omega
      refine ⟨?_, ?_, ?_, ?_⟩
      · show upd (t 23) (w + 1) _ τ = _; rw [upd_o ne]
      · show upd (t 24) (w + 1) _ τ = _; rw [upd_o ne]
      · show upd (t 25) (w + 1) _ τ = _; rw [upd_o ne]
      · show upd (t 26) (w + 1) _ τ = _; rw [upd_o ne]
    · refine ⟨?_, ?_, ?_, ?_⟩
      · show upd (t 24) (w + 1) (ldM (haT t w f (wtF h r j f) nr)) (w + 1) = _
        rw [upd_s, n4]
        have : ldM (haT t w f (wtF h r j f) nr) = ldS (liF h r j f nr).1 (if f = 0 then 0 else t 0 19) (t 4) (ahM t) 8 := by rw [← ela]; rfl
        rw [this]
        exact hld
      · show upd (t 25) (w + 1) (haT t w f (wtF h r j f) nr 0 18) (w + 1) = _
        rw [upd_s, n5]; exact s18
      · show upd (t 26) (w + 1) (haT t w f (wtF h r j f) nr 0 19) (w + 1) = _
        rw [upd_s, n6]; exact s19
      · show upd (t 23) (w + 1) (nI (2 * f)) (w + 1) = _
        rw [upd_s]
  · refine Ppl_add (w := w + 1) hP old n2 (fun k hk hb => by rw [n5] at hb; exact (inb k (by omega) hb).1) (fun q hq => ⟨?_, ?_, ?_, ?_, ?_⟩) ?_ ?_
    · have e1 : tN2 (tW (haT t w f (wtF h r j f) nr) (w + 1)) nr nr 27 q = iaN (wtF h r j f) (t 0 12) (t 4) (rdS (t 0 18) (nI f) (t 6) nr) (ldM (goT (hfT t w f) (nI f) (w + 1) nr)) (nI (w + 1)) (t 27) q := by
        show fil (iaN (wtF h r j f) (t 0 12) (t 4) (rdS (t 0 18) (nI f) (t 6) nr) (ldM (goT (hfT t w f) (nI f) (w + 1) nr)) (nI (w + 1)) (t 27)) (t 27) nr q = _
        exact fil_in hq
      rw [e1, n5, (lib q (by omega)).1]
      unfold iaN
      have hz := wnot q hq
      by_cases e : t 27 q = -1
      · rw [if_pos e, e]
        -- never rode: not riding now
        have nr5 : bt (r 5 j) q = false := by
          cases cb : bt (r 5 j) q
          · rfl
          · exfalso
            have hh := (hP.1 q hq).1
            rw [e, fst1] at hh
            have hw := hR.2.1 j (Nat.le_refl _)
            by_cases e3 : fst1 (fun i => bt (r 5 i) q) (r 2) j = -1
            · rw [if_pos e3] at hh
              simp only [cb, if_true] at hh
              rw [hw.1] at hh
              exact nI_nm (by omega) hh.symm
            · rw [if_neg e3] at hh
              exact e3 hh.symm
        have r1f : bt (rdS (t 0 18) (nI f) (t 6) nr) q = false := by rw [r1b q (by omega), nr5]; rfl
        rw [r1f]
        simp [hq]
      · rw [if_neg e]
        have : bt (wtF h r j f) q = false := by
          cases cb : bt (wtF h r j f) q
          · rfl
          · exfalso
            rw [(wtb q (by omega)).2 hq] at cb
            rcases hV.1 q hq with z | z
            · exact e z
            · rw [z] at cb; simp at cb
        rw [this]
        simp
    · have e1 : tN2 (tW (haT t w f (wtF h r j f) nr) (w + 1)) nr nr 28 q = if bt (t 0 18) q = true ∧ t 6 q = nI f then nI (w + 1) else t 28 q := by
        show fil (aaN (hfT t w f) (nI f) (w + 1)) (t 28) nr q = _
        exact fil_in hq
      rw [e1, n8, bt_or, outb q (by omega), c3]
      by_cases e : t 28 q = -1
      · rw [if_pos e, e]
        have na : bt (r 8 j) q = false := by
          cases cb : bt (r 8 j) q
          · rfl
          · exfalso
            have hh := (hP.1 q hq).2.1
            rw [e, fst1] at hh
            have hw := hR.2.1 j (Nat.le_refl _)
            by_cases e3 : fst1 (fun i => bt (r 8 i) q) (r 2) j = -1
            · rw [if_pos e3] at hh
              simp only [cb, if_true] at hh
              rw [hw.1] at hh
              exact nI_nm (by omega) hh.symm
            · rw [if_neg e3] at hh
              exact e3 hh.symm
        rw [na]
        simp [hq]
      · rw [if_neg e]
        have : bt (r 5 j) q = false := by
          cases cb : bt (r 5 j) q
          · rfl
          · exact absurd (hV.2.1 q hq (hV.2.2.1 q (by omega) cb)) e
        rw [this]
        simp
    · have e1 : tN2 (tW (haT t w f (wtF h r j f) nr) (w + 1)) nr nr 29 q = rfN (wtF h r j f) (t 0 12) (t 4) (rdS (t 0 18) (nI f) (t 6) nr) (ldM (goT (hfT t w f) (nI f) (w + 1) nr)) (t 29) q := by
        show fil (rfN (wtF h r j f) (t 0 12) (t 4) (rdS (t 0 18) (nI f) (t 6) nr) (ldM (goT (hfT t w f) (nI f) (w + 1) nr)) (t 29)) (t 29) nr q = _
        exact fil_in hq
      rw [e1, n9, (lib q (by omega)).2]
      unfold rfN
      simp [hq]
    · rw [tN2_32 _ hq, n5, n6, ← s18, ← s19]
      rfl
    · rw [tN2_33 _ hq, notes_heard (tW (haT t w f (wtF h r j f) nr) (w + 1)) hr8 hst (fun k hk hb => by
        have hb2 : bt (tN2 (tW (haT t w f (wtF h r j f) nr) (w + 1)) nr nr 0 18) k = true := hb
        rw [s18] at hb2
        exact (inb k (by omega) hb2).1) hq, n5, n6, ← s18, ← s19]
      rfl
    · rw [s29, n9]
      by_cases e : t 0 29 = -1
      · rw [if_pos e, if_pos e]
        by_cases e2 : (liF h r j f nr).2.2 = 0
        · rw [if_pos e2, if_pos e2]; exact e
        · rw [if_neg e2, if_neg e2]
      · rw [if_neg e, if_neg e]
    · rw [s30, n9]
      have low8 : lowS (liF h r j f nr).2.2 8 = lowS (liF h r j f nr).2.2 nr ∨ (liF h r j f nr).2.2 = 0 := by
        by_cases e2 : (liF h r j f nr).2.2 = 0
        · exact Or.inr e2
        · left
          obtain ⟨k, hk, hb⟩ := bt_ne e2
          have hkn : k < nr := by rw [(lib k hk).2] at hb; simp at hb; exact hb.1
          have hs := lowS_some (x := (liF h r j f nr).2.2) (n := nr) (by omega) ⟨k, hkn, hb⟩
          have go : ∀ d, lowS (liF h r j f nr).2.2 (nr + d) = lowS (liF h r j f nr).2.2 nr := by
            intro d
            induction d with
            | zero => rfl
            | succ d ih => rw [← Nat.add_assoc, lowS, ih, if_neg hs]
          have := go (8 - nr)
          rwa [show nr + (8 - nr) = 8 by omega] at this
      by_cases e : t 0 29 = -1
      · rw [if_pos e, if_pos (hV.2.2.2.mp e)]
        by_cases e2 : (liF h r j f nr).2.2 = 0
        · rw [if_pos e2, if_pos e2]; exact hV.2.2.2.mp e
        · rw [if_neg e2, if_neg e2]
          rcases low8 with z | z
          · exact z.symm
          · exact absurd z e2
      · rw [if_neg e, if_neg (fun z => e (hV.2.2.2.mpr z))]
  · refine ⟨fun q hq => ?_, fun q hq hb => ?_, fun k hk hb => ?_, ?_⟩
    · have e1 : tN2 (tW (haT t w f (wtF h r j f) nr) (w + 1)) nr nr 27 q = iaN (wtF h r j f) (t 0 12) (t 4) (rdS (t 0 18) (nI f) (t 6) nr) (ldM (goT (hfT t w f) (nI f) (w + 1) nr)) (nI (w + 1)) (t 27) q := by
        show fil (iaN (wtF h r j f) (t 0 12) (t 4) (rdS (t 0 18) (nI f) (t 6) nr) (ldM (goT (hfT t w f) (nI f) (w + 1) nr)) (nI (w + 1)) (t 27)) (t 27) nr q = _
        exact fil_in hq
      rw [e1, s20, bt_or, (lib q (by omega)).1]
      unfold iaN
      by_cases c : bt (wtF h r j f) q = true ∧ ¬ t 0 12 < (liS (wtF h r j f) (t 0 12) (t 4) (rdS (t 0 18) (nI f) (t 6) nr) (ldM (goT (hfT t w f) (nI f) (w + 1) nr)) 0 q).2.1 + t 4 q
      · right
        simp [hq, c.1, c.2]
      · rw [if_neg c]
        rcases hV.1 q hq with z | z
        · exact Or.inl z
        · right; rw [z]; rfl
    · have e1 : tN2 (tW (haT t w f (wtF h r j f) nr) (w + 1)) nr nr 28 q = if bt (t 0 18) q = true ∧ t 6 q = nI f then nI (w + 1) else t 28 q := by
        show fil (aaN (hfT t w f) (nI f) (w + 1)) (t 28) nr q = _
        exact fil_in hq
      rw [n8, bt_or, Bool.or_eq_false_iff, outb q (by omega)] at hb
      rw [e1, c3]
      by_cases c : bt (r 5 j) q = true ∧ t 6 q = nI f
      · rw [c.1] at hb; simp [hq, c.2] at hb
      · rw [if_neg c]; exact hV.2.1 q hq hb.1
    · rw [n5] at hb
      obtain ⟨a1, a2, a3, a4⟩ := inb k hk hb
      rw [n8, bt_or, a3, a4]; rfl
    · rw [s29, s30]
      by_cases e : t 0 29 = -1
      · rw [if_pos e]
        by_cases e2 : (liF h r j f nr).2.2 = 0
        · rw [if_pos e2]; exact hV.2.2.2
        · rw [if_neg e2]
          obtain ⟨k, hk, hb⟩ := bt_ne e2
          have hkn : k < nr := by rw [(lib k hk).2] at hb; simp at hb; exact hb.1
          exact ⟨fun z => absurd z (nI_nm (by omega)), fun z => absurd z (lowS_some (by omega) ⟨k, hkn, hb⟩)⟩
      · rw [if_neg e]; exact hV.2.2.2
  · have e0 : (haT t w f (wtF h r j f) nr) 0 i = t 0 i := by
      unfold haT gtT
      rw [bdT_s _ _ _ _ _ _ _ h3 h5 h7 h8, goT_s _ _ _ _ h3]
      unfold hfT
      simp only [sS_s]
      first
        | rw [upd_o h4, upd_o h2, upd_o h1]
        | rw [upd_o h2, upd_o h4, upd_o h1]
        | simp [upd_o, h1, h2, h3, h4]
    exact e0
