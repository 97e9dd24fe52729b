/-! ===== a halt at HALF keeps the relation ===== -/
/-- what a run leaves as it was -/
def Frm (t u : St) : Prop := (∀ c, c ≠ 0 → c ≠ 23 → c ≠ 24 → c ≠ 25 → c ≠ 26 → c ≠ 27 → c ≠ 28 → c ≠ 29 → c ≠ 32 → c ≠ 33 → u c = t c) ∧ ∀ i, i ≠ 16 → i ≠ 17 → i ≠ 18 → i ≠ 19 → i ≠ 20 → i ≠ 21 → i ≠ 29 → i ≠ 30 → u 0 i = t 0 i
theorem Frm.rf {t : St} : Frm t t := ⟨fun _ _ _ _ _ _ _ _ _ _ _ => rfl, fun _ _ _ _ _ _ _ _ _ => rfl⟩
theorem Frm.tr {t u v : St} (h : Frm t u) (k : Frm u v) : Frm t v := ⟨fun c a b d e f g i j l m => (k.1 c a b d e f g i j l m).trans (h.1 c a b d e f g i j l m), fun i a b c d e f g j => (k.2 i a b c d e f g j).trans (h.2 i a b c d e f g j)⟩
theorem laS_mono (wt lim : Int32) (ah : Nat → Int32) (a v : Int32) {k : Nat} (h : bt a k = true) : ∀ l, bt (laS wt lim ah a v l).1 k = true
  | 0 => h
  | l + 1 => by
    rw [laS]
    have ih := laS_mono wt lim ah a v h l
    cases c : bt wt l
    · simpa using ih
    · simp only [if_true]
      by_cases c2 : lim < (laS wt lim ah a v l).2 + ah l
      · rw [if_pos c2]; exact ih
      · rw [if_neg c2]
        show bt (_ ||| _) k = true
        rw [bt_or, ih]; simp
theorem laS_e {wt lim : Int32} {ah ah' : Nat → Int32} {a v : Int32} : ∀ {l : Nat}, (∀ k, k < l → bt wt k = true → ah k = ah' k) → laS wt lim ah a v l = laS wt lim ah' a v l := by
  intro l
  induction l with
  | zero => intro _; rfl
  | succ l ih =>
    intro h
    have e := ih (fun k hk => h k (by omega))
    rw [laS, laS, e]
    by_cases c : bt wt l = true
    · rw [if_pos c, if_pos c, h l (by omega) c]
    · rw [if_neg c, if_neg c]
theorem Hou_e {h t u : St} {nr nl hf : Nat} (H : Hou h t nr nl hf) (e0 : u 0 2 = t 0 2 ∧ u 0 6 = t 0 6 ∧ u 0 11 = t 0 11 ∧ u 0 12 = t 0 12) (e4 : u 4 = t 4) (e5 : u 5 = t 5) (e6 : u 6 = t 6) (e8 : u 8 = t 8) : Hou h u nr nl hf := by
  unfold Hou
  rw [e0.1, e0.2.1, e0.2.2.1, e0.2.2.2, e4, e5, e6, e8]
  exact H
theorem Lea_e {r r' t u : St} {nr nl : Nat} (H : Lea r t nr nl) (e1 : r' 0 10 = r 0 10) (e2 : r' 12 = r 12) (e3 : u 0 15 = t 0 15) (e4 : u 4 = t 4) (e9 : u 9 = t 9) : Lea r' u nr nl := by
  have : ahM u = ahM t := by funext k; unfold ahM; rw [e4, e9]
  unfold Lea
  rw [e1, e2, e3, e9, this]
  exact H
/-- what the reference needs of a ride that stands -/
theorem Cur_ab {r t : St} {j w nr nl : Nat} (hC : Cur r t j w nr nl) (hL : Lea r t nr nl) : ∀ k, k < 8 → bt (t 0 19) k = true → ∃ q, q < 9 ∧ t 9 k = nI q := by
  intro k hk hb
  rw [hC.2.2.2.1] at hb
  obtain ⟨q, h1, h2⟩ := hL.1 k (hC.2.2.2.2.2.2.2.1 k (by omega) hb).1
  exact ⟨q, by omega, h2⟩
theorem half_keeps {h r t : St} {wt : Int32} {j w nr nl hf : Nat} {cp : Nat → Nat} (hH : Hou h t nr nl hf) (hL : Lea r t nr nl) (hR : Rws r j) (hC : Cur r t j w nr nl) (hI : His r t j w cp) (hP : Ppl r t j nr) (hw2 : w + 1 < 256) (hwt : ∀ k, k < 32 → bt wt k = wtM t nl k) (hcp : ∀ g, g ≤ w - whn r j → cp g = plf (pN r j) (2 * hf + 1) g) :
    ∃ t', fX9_haltsHalf t wt = some t' ∧ Hou h t' nr nl hf ∧ Lea (halfR h r j (nI (w + 1)) (nI (2 * hf + 1)) wt nl) t' nr nl ∧ Rws (halfR h r j (nI (w + 1)) (nI (2 * hf + 1)) wt nl) (j + 1) ∧ whn (halfR h r j (nI (w + 1)) (nI (2 * hf + 1)) wt nl) (j + 1) = w + 1 ∧ pN (halfR h r j (nI (w + 1)) (nI (2 * hf + 1)) wt nl) (j + 1) = 2 * hf + 1 ∧ Cur (halfR h r j (nI (w + 1)) (nI (2 * hf + 1)) wt nl) t' (j + 1) (w + 1) nr nl ∧ His (halfR h r j (nI (w + 1)) (nI (2 * hf + 1)) wt nl) t' (j + 1) (w + 1) (fun _ => 2 * hf + 1) ∧ Ppl (halfR h r j (nI (w + 1)) (nI (2 * hf + 1)) wt nl) t' (j + 1) nr ∧ Frm t t' := by
  obtain ⟨⟨hr1, hr2, hr8⟩, ⟨hl1, hl2, hl8⟩, ⟨hf1, hf2, hf8⟩, hlim, -, -, -, -⟩ := id hH
  obtain ⟨c1, c2, c3, c4, c5, c6, c7, c8, c9, c10, c11, c12⟩ := id hC
  have hab := Cur_ab hC hL
  have wtl : ∀ k, k < nl → bt wt k = true → bt (t 0 21) k = false ∧ bt (r 0 10) k = true := by
    intro k hk hb
    rw [hwt k (by omega)] at hb
    unfold wtM at hb
    simp only [Bool.and_eq_true, decide_eq_true_eq, Bool.not_eq_true'] at hb
    refine ⟨hb.2.2, ?_⟩
    rw [hL.2.1 k (by omega)]
    rw [hr2] at hb
    simp [hk, hb.2.1.1.1, hb.2.1.1.2]
  have hsub : t 0 21 ||| t 0 19 = t 0 21 := sub_of (fun k hk hb => by rw [c5 k hk]; rw [c4] at hb; rw [hb]; rfl)
  have hHH := f_haltsHalf t wt hl2 hl8 hr2 hr8 c1 hw2 (fun k hk hb => ⟨(wtl k hk hb).1, by obtain ⟨q, h1, h2⟩ := hL.1 k hk; exact ⟨q, by omega, h2⟩⟩) hsub hab
  have eq : laS wt (h 0 1) (r 12) (r 6 j) (r 4 j) nl = laS wt (t 0 12) (ahM t) (t 0 19) (ldM t) nl := by
    rw [hlim, ← c4, c11]
    exact laS_e (fun k hk hb => hL.2.2 k hk (wtl k hk hb).2)
  have hnot : ∀ k, k < nl → bt wt k = true → bt (t 0 19) k = false := by
    intro k hk hb
    have := (wtl k hk hb).1
    rw [← hsub, bt_or] at this
    simp at this
    exact this.2
  have hld := laS_ld wt (t 0 12) (t 0 18) (t 4) (ahM t) (t 0 19) (ldM t) hl8 hnot rfl (l := nl) (Nat.le_refl _)
  have hin := fun k (hk : k < 32) => laS_in wt (t 0 12) (ahM t) (t 0 19) (ldM t) (k := k) hk (l := nl) (by omega)
  have hmo := fun k (hb : bt (t 0 19) k = true) => laS_mono wt (t 0 12) (ahM t) (t 0 19) (ldM t) hb nl
  obtain ⟨n2, n3, n4, n5, n6, n7, n8, n9, n0, n10, n12⟩ := halfR_new h r j (nI (w + 1)) (nI (2 * hf + 1)) wt nl
  have old : ∀ c i, i ≤ j → c ≠ 0 → halfR h r j (nI (w + 1)) (nI (2 * hf + 1)) wt nl c i = r c i := fun c i hi hc => halfR_old h r j _ _ wt nl (by omega) hc
  rw [eq] at n4 n6
  refine ⟨_, hHH, ?_⟩
  generalize halfR h r j (nI (w + 1)) (nI (2 * hf + 1)) wt nl = r' at *
  generalize hq : laS wt (t 0 12) (ahM t) (t 0 19) (ldM t) nl = q at *
  -- the reference's store behind it
  have u : ∀ c, c ≠ 0 → c ≠ 23 → c ≠ 24 → c ≠ 25 → c ≠ 26 → c ≠ 32 → c ≠ 33 → tN2 (tW (hhT t w q.1) (w + 1)) nr nr c = t c := by
    intro c a0 a1 a2 a3 a4 a5 a6
    rw [tN2_c _ _ a5 a6]
    unfold tW
    rw [up_o a4, up_o a3, up_o a2, up_o a1, hhT_c _ _ _ a0]
  have ldq : ldM (tW (hhT t w q.1) (w + 1)) = q.2 := hld
  have ld2 : ldM (hhT t w q.1) = q.2 := hld
  have hst : ∀ p, p < nr → t 33 p ||| t 32 p = t 33 p := c12.2.1
  obtain ⟨R1, R2, R3, R4, R5⟩ := Rws_add (w := w + 1) (p := 2 * hf + 1) hR old n0 n2 (by omega) (by omega) n3 (by omega)
  refine ⟨Hou_e hH ⟨rfl, rfl, rfl, rfl⟩ (u 4 (by decide) (by decide) (by decide) (by decide) (by decide) (by decide) (by decide)) (u 5 (by decide) (by decide) (by decide) (by decide) (by decide) (by decide) (by decide)) (u 6 (by decide) (by decide) (by decide) (by decide) (by decide) (by decide) (by decide)) (u 8 (by decide) (by decide) (by decide) (by decide) (by decide) (by decide) (by decide)), Lea_e hL n10 n12 rfl (u 4 (by decide) (by decide) (by decide) (by decide) (by decide) (by decide) (by decide)) (u 9 (by decide) (by decide) (by decide) (by decide) (by decide) (by decide) (by decide)), R1, R4, R5, ?_, ?_, ?_, ⟨fun c a0 a1 a2 a3 a4 _ _ _ a5 a6 => u c a0 a1 a2 a3 a4 a5 a6, fun i h1 h2 _ h4 _ h6 _ _ => ?_⟩⟩
  · have u5 := u 5 (by decide) (by decide) (by decide) (by decide) (by decide) (by decide) (by decide)
    have u6 := u 6 (by decide) (by decide) (by decide) (by decide) (by decide) (by decide) (by decide)
    refine ⟨rfl, by rw [R4]; exact Nat.le_refl _, by rw [n5]; exact c3, by rw [n6]; rfl, fun k hk => ?_, fun k hk => ?_, fun k hk hb => ?_, fun k hk hb => ?_, fun k hk hb => ?_, fun k hk hb => ?_, ?_, stab_tN2 _ _⟩
    · show bt (t 0 21 ||| q.1) k = _
      rw [bt_or, c5 k hk, n6, n7]
      cases c : bt (r 6 j) k
      · simp [Bool.or_comm]
      · have : bt q.1 k = true := hmo k (by rw [c4]; exact c)
        simp [this]
    · show bt (t 0 20) k = _
      rw [c6 k hk, n5, n8, u5, u6]
    · rw [n5] at hb; rw [u5, u6]; exact c7 k hk hb
    · rw [n6] at hb
      rw [n10]
      rcases hin k hk hb with z | z
      · rw [c4] at z; exact c8 k hk z
      · exact ⟨z.1, (wtl k z.1 z.2).2⟩
    · rw [n8] at hb; exact c9 k hk hb
    · rw [u5, u6] at hb; rw [n8]; exact c10 k hk hb
    · rw [n4]
      exact hld.symm
  · refine His_add hI hR c2 old n2 (by omega) n3 (by omega) hcp (fun τ hτ => ?_) ?_
    · have ne : τ ≠ w + 1 := by omega
      refine ⟨?_, ?_, ?_, ?_⟩
      · show upd (t 23) (w + 1) _ τ = _; rw [upd_o ne]
      · show upd (t 24) (w + 1) _ τ = _; rw [upd_o ne]
      · show upd (t 25) (w + 1) _ τ = _; rw [upd_o ne]
      · show upd (t 26) (w + 1) _ τ = _; rw [upd_o ne]
    · refine ⟨?_, ?_, ?_, ?_⟩
      · show upd (t 24) (w + 1) (ldM (hhT t w q.1)) (w + 1) = _; rw [upd_s, n4, ld2]
      · show upd (t 25) (w + 1) (t 0 18) (w + 1) = _; rw [upd_s, n5, c3]
      · show upd (t 26) (w + 1) q.1 (w + 1) = _; rw [upd_s, n6]
      · show upd (t 23) (w + 1) ((2 * t 0 11) + 1) (w + 1) = _
        rw [upd_s, hf2, show (2 : Int32) = nI 2 from rfl, pk_mul, nI_1]
  · have x27 : tN2 (tW (hhT t w q.1) (w + 1)) nr nr 27 = t 27 := u 27 (by decide) (by decide) (by decide) (by decide) (by decide) (by decide) (by decide)
    have x28 : tN2 (tW (hhT t w q.1) (w + 1)) nr nr 28 = t 28 := u 28 (by decide) (by decide) (by decide) (by decide) (by decide) (by decide) (by decide)
    have x29 : tN2 (tW (hhT t w q.1) (w + 1)) nr nr 29 = t 29 := u 29 (by decide) (by decide) (by decide) (by decide) (by decide) (by decide) (by decide)
    have z9 : ∀ k, bt (0 : Int32) k = false := bt_zero
    refine Ppl_add (w := w + 1) hP old n2 (fun k hk hb => by rw [n5] at hb; exact (c7 k (by omega) hb).1) (fun p hp => ⟨?_, ?_, ?_, ?_, ?_⟩) ?_ ?_
    · rw [x27, n5]
      by_cases e : t 27 p = -1
      · rw [if_pos e]
        cases cb : bt (r 5 j) p
        · simpa using e
        · exfalso
          have hh := (hP.1 p hp).1
          rw [e, fst1] at hh
          have hw := hR.2.1 j (Nat.le_refl _)
          have hn1 : ¬ nI (whn r j) = -1 := fun z => by
            have := nI_toInt (n := whn r j) (by omega)
            rw [z] at this
            have e2 : (-1 : Int32).toInt = -1 := by decide
            omega
          by_cases e3 : fst1 (fun i => bt (r 5 i) p) (r 2) j = -1
          · rw [if_pos e3] at hh
            simp only [cb, if_true] at hh
            rw [hw.1] at hh
            exact hn1 hh.symm
          · rw [if_neg e3] at hh
            exact e3 hh.symm
      · rw [if_neg e]
    · rw [x28, n8]
      by_cases e : t 28 p = -1
      · rw [if_pos e]
        cases cb : bt (r 8 j) p
        · simpa using e
        · exfalso
          have hh := (hP.1 p hp).2.1
          rw [e, fst1] at hh
          have hw := hR.2.1 j (Nat.le_refl _)
          have hn1 : ¬ nI (whn r j) = -1 := fun z => by
            have := nI_toInt (n := whn r j) (by omega)
            rw [z] at this
            have e2 : (-1 : Int32).toInt = -1 := by decide
            omega
          by_cases e3 : fst1 (fun i => bt (r 8 i) p) (r 2) j = -1
          · rw [if_pos e3] at hh
            simp only [cb, if_true] at hh
            rw [hw.1] at hh
            exact hn1 hh.symm
          · rw [if_neg e3] at hh
            exact e3 hh.symm
      · rw [if_neg e]
    · rw [x29, n9, z9]; rfl
    · rw [tN2_32 _ hp, n5, n6, ← c3]
      rfl
    · rw [tN2_33 _ hp, notes_heard (tW (hhT t w q.1) (w + 1)) hr8 hst (fun k hk hb => by
        have hb2 : bt (t 0 18) k = true := hb
        rw [c3] at hb2
        exact (c7 k (by omega) hb2).1) hp, n5, n6, ← c3]
      rfl
    · rw [n9, if_pos rfl]
      show t 0 29 = _
      by_cases e : t 0 29 = -1
      · rw [if_pos e]; exact e
      · rw [if_neg e]
    · rw [n9, if_pos rfl]
      show t 0 30 = _
      by_cases e : t 0 30 = -1
      · rw [if_pos e]; exact e
      · rw [if_neg e]
  · show upd (upd (upd (upd (t 0) 16 _) 17 _) 19 q.1) 21 _ i = _
    rw [upd_o h6, upd_o h4, upd_o h2, upd_o h1]
