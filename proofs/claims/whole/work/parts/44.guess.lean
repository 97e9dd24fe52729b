/-! ===== what was seen, against a ride ===== -/
theorem bF : (if false = true then (1 : Int32) else 0) = 0 := rfl
theorem bTn : ¬ (if true = true then (1 : Int32) else 0) = 0 := by decide
def sAll (p : Nat → Bool) : Nat → Nat → Bool
  | 0, _ => true
  | m + 1, i => p i && sAll p m (i + 1)
def pS (t : St) (w k : Nat) : Bool := decide (t 24 (stp1 (ix (t 36 k)) w) = t 37 k)
theorem f_loadBehind {t : St} {w T : Nat} (h16 : t 0 16 = nI w) (hw : w ≤ 242) (hT : T ≤ 255) : fX9_loadBehind t (nI T) = some (t 24 (stp1 T w)) := by
  unfold fX9_loadBehind stp1
  rw [h16]
  by_cases c : w ≤ T
  · rw [if_pos (by rw [nI_le' (by omega) (by omega)]; exact c), if_pos c, rd_nI rfl (show w < 256 by omega) (by decide)]
  · rw [if_neg (by rw [nI_le' (by omega) (by omega)]; exact c), if_neg c, rd_nI rfl (show T < 256 by omega) (by decide)]
theorem Sgt_d {v s u : St} (D : Dur s u) (H : Sgt v s) : Sgt v u := by
  unfold Sgt
  rw [D.2.2.2.2.1, D.1.2.2.1, D.1.2.2.2]
  exact H
theorem f_comeOut_2 {v h r t : St} {nr nl hf j w fl n : Nat} (H : Rid h r t nr nl hf j w fl) (hn : n ≤ 8) (h0 : v 0 0 = nI n) (hs : ∀ k, k < n → v 2 k = t 36 k ∧ v 3 k = t 37 k ∧ ∃ T, T ≤ 255 ∧ t 36 k = nI T) : ∀ (m i N : Nat), m + i = n → m < N → fX6_comeOut_2 v h r N (nI i) = some (if sAll (pS t w) m i then 1 else 0)
  | 0, i, N, e, hN => by
    obtain ⟨N, rfl⟩ : ∃ M, N = M + 1 := ⟨N - 1, by omega⟩
    rw [fX6_comeOut_2, h0, if_pos (by rw [nI_le' (by omega) (by omega)]; omega)]
    rfl
  | m + 1, i, N, e, hN => by
    obtain ⟨N, rfl⟩ : ∃ M, N = M + 1 := ⟨N - 1, by omega⟩
    obtain ⟨s1, s2, T, hT, eT⟩ := hs i (by omega)
    obtain ⟨k, k1, k2, -, k4⟩ := arr_of H (T := T) (by omega)
    have hj := H.2.2.2.2.1
    have ep : pS t w i = decide (t 24 (stp1 T w) = t 37 i) := by unfold pS; rw [eT, ix_nI (by omega)]
    rw [fX6_comeOut_2, h0, if_neg (by rw [nI_le' (by omega) (by omega)]; omega), rd_nI rfl (show i < 8 by omega) (by decide), s1, eT, k2, bd1_s, rd_nI rfl (show k < 45 by omega) (by decide), rd_nI rfl (show i < 8 by omega) (by decide), s2, k4, sAll, ep]
    by_cases c : t 24 (stp1 T w) = t 37 i
    · rw [if_pos c, stp_n, nI_1, f_comeOut_2 H hn h0 hs m (i + 1) N (by omega) (by omega)]
      simp [c]
    · rw [if_neg c]
      simp [c]
theorem f_isSeen_8 {t : St} {w n : Nat} (h16 : t 0 16 = nI w) (hw : w ≤ 242) (hn : n ≤ 8) (h0 : t 0 34 = nI n) (hs : ∀ k, k < n → ∃ T, T ≤ 255 ∧ t 36 k = nI T) : ∀ (m i N : Nat) (a : Bool), m + i = n → m < N → fX9_isSeen_8 N (if a then 1 else 0) (nI i) t = some ((if a && sAll (pS t w) m i then 1 else 0), t)
  | 0, i, N, a, e, hN => by
    obtain ⟨N, rfl⟩ : ∃ M, N = M + 1 := ⟨N - 1, by omega⟩
    rw [fX9_isSeen_8, h0, if_pos (by rw [nI_le' (by omega) (by omega)]; omega)]
    cases a <;> rfl
  | m + 1, i, N, a, e, hN => by
    obtain ⟨N, rfl⟩ : ∃ M, N = M + 1 := ⟨N - 1, by omega⟩
    obtain ⟨T, hT, eT⟩ := hs i (by omega)
    have ep : pS t w i = decide (t 24 (stp1 T w) = t 37 i) := by unfold pS; rw [eT, ix_nI (by omega)]
    have ih0 : fX9_isSeen_8 N 0 (nI (i + 1)) t = _ := f_isSeen_8 h16 hw hn h0 hs m (i + 1) N false (by omega) (by omega)
    have ih1 : fX9_isSeen_8 N 1 (nI (i + 1)) t = _ := f_isSeen_8 h16 hw hn h0 hs m (i + 1) N true (by omega) (by omega)
    rw [fX9_isSeen_8, h0, if_neg (by rw [nI_le' (by omega) (by omega)]; omega)]
    cases a
    · rw [if_pos bF, stp_n, nI_1, ih0]
      rfl
    · rw [if_neg bTn, rd_nI rfl (show i < 8 by omega) (by decide), eT, f_loadBehind h16 hw hT, bd1_s, rd_nI rfl (show i < 8 by omega) (by decide), sAll, ep]
      by_cases c : t 24 (stp1 T w) = t 37 i
      · rw [if_pos c, stp_n, nI_1, ih1]
        simp [c]
      · rw [if_neg c, stp_n, nI_1, ih0]
        simp [c]
theorem seen_of {v h r t : St} {nr nl hf j w fl : Nat} (H : Rid h r t nr nl hf j w fl) (hS : Sgt v t) : ∃ b : Bool, fX6_comeOut v h r = some (if b then 1 else 0) ∧ fX9_isSeen_8 300 1 0 t = some ((if b then 1 else 0), t) := by
  obtain ⟨n, a1, a2, a3, a4⟩ := hS
  obtain ⟨g1, g2, g3⟩ := Rid_16 H
  refine ⟨sAll (pS t w) n 0, f_comeOut_2 H a1 a2 a4 n 0 300 (by omega) (by omega), ?_⟩
  exact f_isSeen_8 g1 g2 a1 a3 (fun k hk => (a4 k hk).2.2) n 0 300 true (by omega) (by omega)
/-! ===== one leaver less ===== -/
def ntM (l : Nat) : Int32 := ((1 : Int32) <<< (nI l &&& 31)) ^^^ (-1)
theorem bt_ntM {l k : Nat} (hl : l < 32) (hk : k < 32) : bt (ntM l) k = !decide (k = l) := by unfold ntM; rw [bt_not _ hk, bt_one hl]
def mkC (n l : Nat) : Int32 := allM n &&& ntM l
def mkR (l : Nat) : Int32 := 255 &&& ntM l
theorem mk_e2 {n l k : Nat} (hn : n ≤ 8) (hl : l < n) (hk : k < n) : bt (mkC n l) k = bt (mkR l) k := by
  unfold mkC mkR
  rw [bt_and, bt_and, bt_allM hn (by omega), bt_255k (by omega)]
  simp [hk]
/-- ready but for who leaves -/
def Rdw (h s t : St) : Prop := Rdd t s ∧ Sts h t ∧ Way t (wyT s (-1) (-1))
theorem Rdw_told {h s t : St} (hk : Tok s) (hs : Sts h t) (hT : Tld t s) : Rdw h s t := ⟨hT.1, hs, Way_told hk hT⟩
theorem Rdw_S {h s t : St} (H : Rdw h s t) (x S : Int32) (e : ∀ k, k < nlS s → bt S k = bt x k) : Rdy h s (sS t 0 15 x) S (wyT s (-1) (-1)) := ⟨H.1, H.2.1, e, H.2.2⟩
theorem Rdw_frm {h s t t' : St} (F : Frm t t') (H : Rdw h s t) : Rdw h s t' := by
  obtain ⟨a, b, c⟩ := H
  refine ⟨Rdd_frm F a, Sts_d F.dur.tx b, ?_⟩
  unfold Way
  rw [Frm13 F, Frm15 F]
  exact c
theorem Rdw_0 {h s t : St} (x : Int32) (H : Rdw h s t) : Rdw h s (sS t 0 15 x) := H
theorem Dur_0 {s t : St} (x : Int32) (D : Dur s t) : Dur s (sS t 0 15 x) := D
noncomputable def fit (h s : St) (l : Nat) : Bool := @decide (∃ u u', Rdy h s u (mkC (nlS s) l) (wyT s (-1) (-1)) ∧ Dur s u ∧ fX9_isSeen u = some (1, u')) (Classical.propDecidable _)
/-- a ready state that keeps all else -/
theorem Rdy_exD {h s : St} (hk : Tok s) (hs : Sts h s) (S : Int32) {fs : List Nat} (h22 : fs.length ≤ 22) (hf : ∀ f, f ∈ fs → f < 10) : ∃ t, Rdy h s t S fs ∧ Dur s t := by
  obtain ⟨u, F, R, -⟩ := f_reads hk
  obtain ⟨hf0, h1, h2, h3, h4⟩ := hs
  refine ⟨sS (sS (va_up u 15 (fun i => nI (fs.getD i 0))) 0 13 (nI fs.length)) 0 15 S, ⟨R, ⟨hf0, h1, h2, ?_, ?_⟩, fun k hk => rfl, rfl, fun i hi => rfl, h22, hf⟩, F.dur⟩
  · show u 0 11 = _
    rw [F.2 11 (by decide) (by decide) (by decide)]; exact h3
  · show h 0 1 = u 0 12
    rw [F.2 12 (by decide) (by decide) (by decide)]; exact h4
theorem fit_of {h s r v : St} {l : Nat} (hk : Tok s) (hs : Sts h s) (hS : Sgt v s) (hR : RidV h s r (mkC (nlS s) l) (wyT s (-1) (-1))) : fX6_comeOut v h r = some (if fit h s l then 1 else 0) ∧ ∀ u, Rdy h s u (mkC (nlS s) l) (wyT s (-1) (-1)) → Dur s u → ∃ u', fX9_isSeen u = some ((if fit h s l then 1 else 0), u') ∧ Frm u u' := by
  have h20 := nsS_20 hk
  have hl := wyT_len s (-1) (-1)
  have key : ∀ u, Rdy h s u (mkC (nlS s) l) (wyT s (-1) (-1)) → Dur s u → ∃ (b : Bool) (u' : St), fX6_comeOut v h r = some (if b then 1 else 0) ∧ fX9_isSeen u = some ((if b then 1 else 0), u') ∧ Frm u u' := by
    intro u hu D
    obtain ⟨t', hf, j, w, fl, a1, a2, a3⟩ := hR u hu
    obtain ⟨b, b1, b2⟩ := seen_of a2 (Sgt_d (D.tr a3.dur) hS)
    refine ⟨b, t', b1, ?_, a3⟩
    unfold fX9_isSeen
    rw [a1, bd1_s]
    exact b2
  obtain ⟨u0, r0, D0⟩ := Rdy_exD hk hs (mkC (nlS s) l) (fs := wyT s (-1) (-1)) (by omega) (wyT_lt hk _ _)
  obtain ⟨b, u0', c1, c2, c3⟩ := key u0 r0 D0
  have eb : fit h s l = b := by
    cases b
    · unfold fit
      refine @decide_eq_false _ (Classical.propDecidable _) ?_
      rintro ⟨u, u', d1, d2, d3⟩
      obtain ⟨b', u'', e1, e2, e3⟩ := key u d1 d2
      rw [c1] at e1
      rw [d3] at e2
      cases b'
      · simp at e2
      · simp at e1
    · unfold fit
      exact @decide_eq_true _ (Classical.propDecidable _) ⟨u0, u0', r0, D0, c2⟩
  rw [eb]
  refine ⟨c1, fun u hu D => ?_⟩
  obtain ⟨b', u', e1, e2, e3⟩ := key u hu D
  rw [c1] at e1
  have : b = b' := by
    cases b <;> cases b' <;> simp at e1 ⊢
  rw [this]
  exact ⟨u', e2, e3⟩
theorem f_fits {h s r v g : St} {l : Nat} (hk : Tok s) (hs : Sts h s) (hH : HsT h s) (hS : Sgt v s) (h0 : R0 r) (hl : l < nlS s) : ∃ r', fX1_fitsWithout h r v g (nI l) = some ((if fit h s l then 1 else 0), r') ∧ R0 r' ∧ RidV h s r' (mkC (nlS s) l) (wyT s (-1) (-1)) := by
  obtain ⟨r1, r', a1, a2, a3, a4⟩ := ride_told (r0 := r) hk hs hH (mkC (nlS s) l) (-1) (-1) h0
  refine ⟨r', ?_, a3, a4⟩
  unfold fX1_fitsWithout fX2_allLeavers
  rw [hH.1.2.1, bd1_s]
  have e : fX4_begin h r ((((1 : Int32) <<< (nI (nlS s) &&& 31)) - 1) &&& (((1 : Int32) <<< (nI l &&& 31)) ^^^ (-1))) = some r1 := a1
  rw [e, bd1_s, a2, bd1_s, (fit_of hk hs hS a4).1, bd1_s]
  cases fit h s l <;> rfl
/-- bits of what holds -/
def nvB (f : Nat → Bool) : Nat → Int32
  | 0 => 0
  | n + 1 => if f n then nvB f n ||| ((1 : Int32) <<< (nI n &&& 31)) else nvB f n
theorem f_never_c {h s v g : St} (hk : Tok s) (hs : Sts h s) (hH : HsT h s) (hS : Sgt v s) : ∀ (m l N : Nat) (r : St), m + l = nlS s → m < N → R0 r → ∃ r', fX1_neverLeft_4 h v g N (nvB (fit h s) l) (nI l) r = some (nvB (fit h s) (nlS s), r') ∧ R0 r'
  | 0, l, N, r, e, hN, h0 => by
    obtain ⟨N, rfl⟩ : ∃ M, N = M + 1 := ⟨N - 1, by omega⟩
    have h8 := nlS_8 hk
    refine ⟨r, ?_, h0⟩
    rw [fX1_neverLeft_4, hH.1.2.1, if_pos (by rw [nI_le' (by omega) (by omega)]; omega), show l = nlS s by omega]
  | m + 1, l, N, r, e, hN, h0 => by
    obtain ⟨N, rfl⟩ : ∃ M, N = M + 1 := ⟨N - 1, by omega⟩
    have h8 := nlS_8 hk
    obtain ⟨r', a1, a2, -⟩ := f_fits (g := g) hk hs hH hS h0 (show l < nlS s by omega)
    obtain ⟨r'', b1, b2⟩ := f_never_c (g := g) hk hs hH hS m (l + 1) N r' (by omega) (by omega) a2
    refine ⟨r'', ?_, b2⟩
    rw [nvB] at b1
    rw [fX1_neverLeft_4, hH.1.2.1, if_neg (by rw [nI_le' (by omega) (by omega)]; omega), a1, bd2_s]
    cases c : fit h s l
    · rw [c] at b1
      rw [if_pos bF, stp_n, nI_1]
      exact b1
    · rw [c] at b1
      rw [if_neg bTn, stp_n, stp_n, nI_1]
      exact b1
/-- for the reference: whoever fits is known -/
def FitR (h s : St) : Prop := ∀ l, l < nlS s → ∀ u, Rdy h s u (mkC (nlS s) l) (wyT s (-1) (-1)) → Dur s u → ∃ u', fX9_isSeen u = some ((if fit h s l then 1 else 0), u') ∧ Frm u u'
theorem FitR_of {h s v : St} (hk : Tok s) (hs : Sts h s) (hH : HsT h s) (hS : Sgt v s) : FitR h s := fun l hl u hu D => by
  obtain ⟨r1, r', a1, a2, a3, a4⟩ := ride_told (r0 := fun _ _ => 0) hk hs hH (mkC (nlS s) l) (-1) (-1) ⟨rfl, rfl, rfl, rfl, rfl, rfl, rfl⟩
  exact (fit_of hk hs hS a4).2 u hu D
theorem f_never_r {h s : St} (hk : Tok s) (hF : FitR h s) : ∀ (m l N : Nat) (u : St), m + l = nlS s → m < N → Rdw h s u → Dur s u → ∃ u', fX9_neverNow_8 N (nvB (fit h s) l) (nI l) u = some (nvB (fit h s) (nlS s), u') ∧ Rdw h s u' ∧ Dur s u'
  | 0, l, N, u, e, hN, hW, hD => by
    obtain ⟨N, rfl⟩ : ∃ M, N = M + 1 := ⟨N - 1, by omega⟩
    have h8 := nlS_8 hk
    refine ⟨u, ?_, hW, hD⟩
    rw [fX9_neverNow_8, hW.1.2.1, if_pos (by rw [nI_le' (by omega) (by omega)]; omega), show l = nlS s by omega]
  | m + 1, l, N, u, e, hN, hW, hD => by
    obtain ⟨N, rfl⟩ : ∃ M, N = M + 1 := ⟨N - 1, by omega⟩
    have h8 := nlS_8 hk
    obtain ⟨u1, a1, a2⟩ := hF l (by omega) (sS u 0 15 (mkR l)) (Rdw_S hW (mkR l) (mkC (nlS s) l) (fun k hk2 => mk_e2 h8 (by omega) hk2)) (Dur_0 _ hD)
    obtain ⟨u2, b1, b2, b3⟩ := f_never_r hk hF m (l + 1) N u1 (by omega) (by omega) (Rdw_frm a2 (Rdw_0 (mkR l) hW)) ((Dur_0 (mkR l) hD).tr a2.dur)
    refine ⟨u2, ?_, b2, b3⟩
    rw [nvB] at b1
    have a1' : fX9_isSeen (sS u 0 15 ((255 : Int32) &&& (((1 : Int32) <<< (nI l &&& 31)) ^^^ (-1)))) = _ := a1
    rw [fX9_neverNow_8, hW.1.2.1, if_neg (by rw [nI_le' (by omega) (by omega)]; omega), stp_n, a1', bd2_s]
    cases c : fit h s l
    · rw [c] at b1
      rw [if_pos bF, stp_n, stp_n, or_z, nI_1]
      exact b1
    · rw [c] at b1
      rw [if_neg bTn, stp_n, stp_n, nI_1]
      exact b1
theorem never_r {z : Nat → St} {y : Nat → Lt} {s : St} (H : Rel z y s) (F : Fsh z y s) : ∃ u, fX9_neverNow s = some (nvB (fit (z 8) s) (nlS s), u) ∧ Rdw (z 8) s u ∧ Dur s u := by
  obtain ⟨t, a1, a2, a3⟩ := f_asTold H.1.1
  have hs := Sts_d a2.tx H.2.1
  obtain ⟨u, b1, b2, b3⟩ := f_never_r H.1.1 (FitR_of H.1.1 H.2.1 F.1 H.2.2.1) (nlS s) 0 300 t (by omega) (by have := nlS_8 H.1.1; omega) (Rdw_told H.1.1 hs a3) a2
  refine ⟨u, ?_, b2, b3⟩
  unfold fX9_neverNow
  rw [a1, bd1_s]
  exact b1
theorem Rel_10 {z : Nat → St} {y : Nat → Lt} {s r : St} (H : Rel z y s) (h0 : R0 r) : Rel (va_up z 10 r) y s := by
  obtain ⟨h1, h2, h3, h4, h5, h6, h7, h8⟩ := H
  refine ⟨⟨h1.1, fun κ hκ => ?_⟩, h2, h3, fun o ho => ?_, h5, h6, h0, ?_⟩
  · rw [up_o (by omega)]; exact h1.2 κ hκ
  · rw [up_o (by omega)]; exact h4 o ho
  · rcases h8 with h8 | ⟨h8, h9⟩
    · exact Or.inl h8
    · exact Or.inr ⟨h8, h9⟩
theorem Fsh_10 {z : Nat → St} {y : Nat → Lt} {s r : St} (F : Fsh z y s) : Fsh (va_up z 10 r) y s := F
theorem c_never {z : Nat → St} {y : Nat → Lt} {s : St} (H : Rel z y s) : Ans (fX8_never z y) (fX9_never s) y := by
  unfold fX8_never fX9_never
  obtain ⟨z', a1, a2, a3, -⟩ := f_freshen H
  obtain ⟨u, b1, b2, b3⟩ := never_r a2 a3
  obtain ⟨r', c1, c2⟩ := f_never_c (g := z' 14) a2.1.1 a2.2.1 a3.1 a2.2.2.1 (nlS s) 0 300 (z' 10) (by omega) (by have := nlS_8 H.1.1; omega) a2.2.2.2.2.2.2.1
  have c1' : fX1_neverLeft (z' 8) (z' 10) (z' 13) (z' 14) = _ := c1
  rw [a1, bd1_s, c1', bd2_s, stp_n, b1, bd2_s]
  exact ⟨_, _, _, rfl, rfl, Rel_10 (Rel_d b3 a2) c2⟩
