/-! ===== more: the reference ===== -/
theorem aa_all {h s : St} {gs : List Nat} (hk : Tok s) (hs : Sts h s) (hH : HsT h s) (h2 : gs.length ≤ 2) (hg : ∀ f, f ∈ gs → f < 10) : ∀ u, Rdy h s u (allM (nlS s)) (wyT s (-1) (-1) ++ gs) → ∃ u' v, fX9_runs u = some u' ∧ Frm u u' ∧ u' 0 2 = nI (nrS s) ∧ fX9_arrivedNow u' 255 = some v ∧ (v = allM (nrS s) ↔ aaB h s gs = true) := by
  have h20 := nsS_20 hk
  have hl := wyT_len s (-1) (-1)
  have hfs : ∀ f, f ∈ wyT s (-1) (-1) ++ gs → f < 10 := fun f hf => by
    rcases List.mem_append.mp hf with z | z
    · exact wyT_lt hk _ _ f z
    · exact hg f z
  obtain ⟨r1, a1, a2⟩ := begin_all (r0 := fun _ _ => 0) hk hs hH (allM (nlS s)) ⟨rfl, rfl, rfl, rfl, rfl, rfl, rfl⟩
  obtain ⟨r, b1, b2, b3⟩ := ride_of hk hs hH (by rw [List.length_append]; omega) hfs (a2 (wyT s (-1) (-1) ++ gs))
  exact (aa_of hk hs h2 hg b3).2
def gsK (k a b : Nat) : List Nat := if k = 0 then [] else if k = 1 then [a] else [a, b]
theorem gsK_f : ∀ k a b, k ≤ 2 → (gsK k a b).length = k ∧ ((0 < k → (gsK k a b).getD 0 0 = a) ∧ (1 < k → (gsK k a b).getD 1 0 = b)) ∧ (a < 10 → b < 10 → ∀ f, f ∈ gsK k a b → f < 10) := by
  intro k a b hk
  obtain rfl | rfl | rfl : k = 0 ∨ k = 1 ∨ k = 2 := by omega
  · exact ⟨rfl, ⟨fun z => absurd z (by omega), fun z => absurd z (by omega)⟩, fun _ _ f hf => by cases hf⟩
  · refine ⟨rfl, ⟨fun _ => rfl, fun z => absurd z (by omega)⟩, fun ha _ f hf => ?_⟩
    have : f = a := by simpa [gsK] using hf
    omega
  · refine ⟨rfl, ⟨fun _ => rfl, fun _ => rfl⟩, fun ha hb f hf => ?_⟩
    have : f = a ∨ f = b := by simpa [gsK] using hf
    omega
theorem f_arrivesBy {h s u : St} {k a b : Nat} (hk : Tok s) (hs : Sts h s) (hH : HsT h s) (D : Dtx s u) (k2 : k ≤ 2) (ha : a < 10) (hb : b < 10) : ∃ u', fX9_arrivesBy u (nI k) (nI a) (nI b) = some ((if aaB h s (gsK k a b) then 1 else 0), u') ∧ Dur u u' ∧ u' 34 0 = nI a ∧ u' 34 1 = nI b := by
  have h20 := nsS_20 hk
  obtain ⟨t, a1, a2, a3⟩ := f_asTold (Tok_x D hk)
  rw [Tld_x D] at a3
  obtain ⟨g1, ⟨g2, g3⟩, g4⟩ := gsK_f k a b k2
  obtain ⟨l1, l2⟩ := wyT_all hk
  have hst : Sts h t := Sts_d (D.tr a2.tx) hs
  obtain ⟨n, hn⟩ : ∃ n, n = nsS s := ⟨_, rfl⟩
  have e13 : t 0 13 = nI n := by rw [hn]; exact a3.2.1
  have f13 : sS t 15 n (nI a) 0 13 = nI n := e13
  have f13' : sS (sS t 15 n (nI a)) 15 (n + 1) (nI b) 0 13 = nI n := e13
  obtain ⟨w, hw⟩ : ∃ w, w = sS (sS (sS (sS (sS t 15 n (nI a)) 15 (n + 1) (nI b)) 0 13 (nI n + nI k)) 34 0 (nI a)) 34 1 (nI b) := ⟨_, rfl⟩
  have hRy : Rdy h s w (allM (nlS s)) (wyT s (-1) (-1) ++ gsK k a b) := by
    have l8 := nlS_8 hk
    rw [hw]
    refine ⟨a3.1, hst, fun q hq => ?_, ?_, fun i hi => ?_, ?_, fun f hf => ?_⟩
    · show _ = bt (t 0 15) q
      rw [a3.2.2.2, bt_255k (by omega), bt_allM l8 (by omega)]; simp [hq]
    · rw [List.length_append, l1, g1, ← hn, ← nI_add]; rfl
    · rw [List.length_append, l1, g1] at hi
      show sS (sS t 15 n (nI a)) 15 (n + 1) (nI b) 15 i = _
      rw [sS_s, sS_s]
      by_cases c : i < n
      · rw [upd_o (by omega), upd_o (by omega), getD_app (by omega), l2 i (by omega)]
        exact a3.2.2.1 i (by omega)
      · have eg : (wyT s (-1) (-1) ++ gsK k a b).getD i 0 = (gsK k a b).getD (i - n) 0 := by
          rw [List.getD_eq_getElem?_getD, List.getElem?_append_right (by omega), List.getD_eq_getElem?_getD, l1, hn]
        rw [eg]
        by_cases d : i = n
        · rw [d, upd_o (by omega), upd_s, Nat.sub_self, g2 (by omega)]
        · have e1 : i = n + 1 := by omega
          rw [e1, upd_s, show n + 1 - n = 1 by omega, g3 (by omega)]
    · rw [List.length_append, l1, g1]; omega
    · rcases List.mem_append.mp hf with z | z
      · exact wyT_lt hk _ _ f z
      · exact g4 ha hb f z
  obtain ⟨u', v, b1, b2, b3, b4, b5⟩ := aa_all hk hs hH (gs := gsK k a b) (by omega) (g4 ha hb) w hRy
  refine ⟨u', ?_, a2.tr ((show Dur t w by rw [hw]; exact Dur.rf (s := t)).tr b2.dur), ?_, ?_⟩
  · unfold fX9_arrivesBy
    rw [a1, bd1_s, e13, wr_nI rfl (show n < 22 by omega) (by decide), f13, nI_1, wr_nI rfl (show n + 1 < 22 by omega) (by decide), f13', stp_n, wr_nI (x := 0) (w := 0) rfl (by decide) (by decide), wr_nI (x := 1) (w := 1) rfl (by decide) (by decide), ← hw, b1, bd1_s, b4, bd1_s, b3]
    by_cases c : v = allM (nrS s)
    · rw [if_pos (show v = ((1 : Int32) <<< (nI (nrS s) &&& 31)) - 1 from c), if_pos (b5.mp c)]
    · rw [if_neg (show ¬ v = ((1 : Int32) <<< (nI (nrS s) &&& 31)) - 1 from c), if_neg (fun z => c (b5.mpr z))]
  · rw [b2.1 34 (by decide) (by decide) (by decide) (by decide) (by decide) (by decide) (by decide) (by decide) (by decide) (by decide), hw, sS_s, upd_o (by decide), sS_s, upd_s]
  · rw [b2.1 34 (by decide) (by decide) (by decide) (by decide) (by decide) (by decide) (by decide) (by decide) (by decide) (by decide), hw, sS_s, upd_s]
/-- the row that the reference tells -/
def Pst (u : St) (o : Int32 × Int32 × Int32) : Prop := fX9_ofRow u o.1 0 = some o.2.1 ∧ fX9_ofRow u o.1 1 = some o.2.2
theorem Pst_n {u : St} : Pst u (-1, -1, -1) := ⟨rfl, rfl⟩
theorem Pst_0 {u : St} : Pst u (0, -1, -1) := ⟨rfl, rfl⟩
theorem Pst_1 {u : St} {a : Int32} (h : u 34 0 = a) : Pst u (1, a, -1) := ⟨by rw [← h]; rfl, rfl⟩
theorem Pst_2 {u : St} {a b : Int32} (h : u 34 0 = a) (h' : u 34 1 = b) : Pst u (2, a, b) := ⟨by rw [← h]; rfl, by rw [← h']; rfl⟩
theorem f_mB_48 {h s : St} {a : Nat} (hk : Tok s) (hs : Sts h s) (hH : HsT h s) (ha : a < 10) (rc : Int32 → St → Option (Int32 × St)) : ∀ (m b N : Nat) (u : St), m + b = 10 → m < N → Dtx s u → (∃ u' o, fX9_moreBy_48 rc N (nI a) (nI b) u = some (o.1, u') ∧ Dur u u' ∧ Pst u' o ∧ ∀ o', s2i (aaB h s) a o' m b = o) ∨ ∃ u', fX9_moreBy_48 rc N (nI a) (nI b) u = rc (nI (a + 1)) u' ∧ Dur u u' ∧ ∀ o, s2i (aaB h s) a o m b = o
  | 0, b, N, u, e, hN, D => by
    obtain ⟨N, rfl⟩ : ∃ M, N = M + 1 := ⟨N - 1, by omega⟩
    right
    refine ⟨u, ?_, Dur.rf, fun _ => rfl⟩
    rw [fX9_moreBy_48, if_pos (by rw [show (10 : Int32) = nI 10 from rfl, nI_le' (by omega) (by omega)]; omega), stp_n, nI_1]
  | m + 1, b, N, u, e, hN, D => by
    obtain ⟨N, rfl⟩ : ∃ M, N = M + 1 := ⟨N - 1, by omega⟩
    obtain ⟨u1, c1, c2, c3, c4⟩ := f_arrivesBy (k := 2) (a := a) (b := b) hk hs hH D (by omega) ha (by omega)
    have c1' : fX9_arrivesBy u 2 (nI a) (nI b) = _ := c1
    have eg : gsK 2 a b = [a, b] := rfl
    rw [eg] at c1'
    rw [fX9_moreBy_48, if_neg (by rw [show (10 : Int32) = nI 10 from rfl, nI_le' (by omega) (by omega)]; omega), c1', bd2_s]
    cases c : aaB h s [a, b]
    · rw [if_pos bF, stp_n, nI_1]
      rcases f_mB_48 hk hs hH ha rc m (b + 1) N u1 (by omega) (by omega) (D.tr c2.tx) with ⟨u', o, g1, g2, g3, g4⟩ | ⟨u', g1, g2, g3⟩
      · refine Or.inl ⟨u', o, g1, c2.tr g2, g3, fun o' => ?_⟩
        rw [s2i, c]; exact g4 o'
      · refine Or.inr ⟨u', g1, c2.tr g2, fun o => ?_⟩
        rw [s2i, c]; exact g3 o
    · rw [if_neg bTn]
      refine Or.inl ⟨u1, (2, nI a, nI b), rfl, c2, Pst_2 c3 c4, fun o' => ?_⟩
      rw [s2i, c]; rfl
theorem f_mB_40 {h s : St} (hk : Tok s) (hs : Sts h s) (hH : HsT h s) : ∀ (m a N : Nat) (u : St), m + a = 10 → m < N → Dtx s u → ∃ u', fX9_moreBy_40 N (nI a) u = some ((s2 (aaB h s) m a).1, u') ∧ Dur u u' ∧ Pst u' (s2 (aaB h s) m a)
  | 0, a, N, u, e, hN, D => by
    obtain ⟨N, rfl⟩ : ∃ M, N = M + 1 := ⟨N - 1, by omega⟩
    refine ⟨u, ?_, Dur.rf, Pst_n⟩
    rw [fX9_moreBy_40, if_pos (by rw [show (10 : Int32) = nI 10 from rfl, nI_le' (by omega) (by omega)]; omega)]
    rfl
  | m + 1, a, N, u, e, hN, D => by
    obtain ⟨N, rfl⟩ : ∃ M, N = M + 1 := ⟨N - 1, by omega⟩
    rw [fX9_moreBy_40, if_neg (by rw [show (10 : Int32) = nI 10 from rfl, nI_le' (by omega) (by omega)]; omega), s2]
    rcases f_mB_48 hk hs hH (show a < 10 by omega) (fX9_moreBy_40 N) 10 0 300 u (by omega) (by omega) D with ⟨u', o, g1, g2, g3, g4⟩ | ⟨u', g1, g2, g3⟩
    · rw [g4]
      exact ⟨u', g1, g2, g3⟩
    · rw [g3]
      obtain ⟨u'', k1, k2, k3⟩ := f_mB_40 hk hs hH m (a + 1) N u' (by omega) (by omega) (D.tr g2.tx)
      exact ⟨u'', g1.trans k1, g2.tr k2, k3⟩
theorem f_mB_14 {h s : St} (hk : Tok s) (hs : Sts h s) (hH : HsT h s) : ∀ (m a N : Nat) (u : St), m + a = 10 → m < N → Dtx s u → ∃ u', fX9_moreBy_14 N (nI a) u = some ((s1 (aaB h s) m a).1, u') ∧ Dur u u' ∧ Pst u' (s1 (aaB h s) m a)
  | 0, a, N, u, e, hN, D => by
    obtain ⟨N, rfl⟩ : ∃ M, N = M + 1 := ⟨N - 1, by omega⟩
    obtain ⟨u', k1, k2, k3⟩ := f_mB_40 hk hs hH 10 0 300 u (by omega) (by omega) D
    refine ⟨u', ?_, k2, k3⟩
    rw [fX9_moreBy_14, if_pos (by rw [show (10 : Int32) = nI 10 from rfl, nI_le' (by omega) (by omega)]; omega)]
    exact k1
  | m + 1, a, N, u, e, hN, D => by
    obtain ⟨N, rfl⟩ : ∃ M, N = M + 1 := ⟨N - 1, by omega⟩
    obtain ⟨u1, c1, c2, c3, c4⟩ := f_arrivesBy (k := 1) (a := a) (b := 0) hk hs hH D (by omega) (by omega) (by omega)
    have c1' : fX9_arrivesBy u 1 (nI a) 0 = _ := c1
    have eg : gsK 1 a 0 = [a] := rfl
    rw [eg] at c1'
    rw [fX9_moreBy_14, if_neg (by rw [show (10 : Int32) = nI 10 from rfl, nI_le' (by omega) (by omega)]; omega), c1', bd2_s, s1]
    cases c : aaB h s [a]
    · rw [if_pos bF, stp_n, nI_1]
      obtain ⟨u', k1, k2, k3⟩ := f_mB_14 hk hs hH m (a + 1) N u1 (by omega) (by omega) (D.tr c2.tx)
      exact ⟨u', k1, c2.tr k2, k3⟩
    · rw [if_neg bTn]
      exact ⟨u1, rfl, c2, Pst_1 c3⟩
theorem f_moreBy {h s : St} (hk : Tok s) (hs : Sts h s) (hH : HsT h s) {u : St} (D : Dtx s u) : ∃ u', fX9_moreBy u = some ((mres (aaB h s)).1, u') ∧ Dur u u' ∧ Pst u' (mres (aaB h s)) := by
  obtain ⟨u1, c1, c2, c3, c4⟩ := f_arrivesBy (k := 0) (a := 0) (b := 0) hk hs hH D (by omega) (by omega) (by omega)
  have c1' : fX9_arrivesBy u 0 0 0 = _ := c1
  have eg : gsK 0 0 0 = [] := rfl
  rw [eg] at c1'
  unfold fX9_moreBy mres
  rw [c1', bd2_s]
  cases c : aaB h s []
  · rw [if_pos bF]
    obtain ⟨u', k1, k2, k3⟩ := f_mB_14 hk hs hH 10 0 300 u1 (by omega) (by omega) (D.tr c2.tx)
    exact ⟨u', k1, c2.tr k2, k3⟩
  · rw [if_neg bTn]
    exact ⟨u1, rfl, c2, Pst_0⟩
/-- .. and both -/
theorem more_of {z : Nat → St} {y : Nat → Lt} {s : St} (H : Rel z y s) (F : Fsh z y s) (hz : z 0 0 10 = 0) : ∃ r' p', fX3_findMore (z 8) (z 10) (z 11) (y 11) = some (r', p') ∧ MoreV s (p' 4) ∧ Rel (va_up (va_up z 10 r') 11 p') y s ∧ Fsh (va_up (va_up z 10 r') 11 p') y s := by
  obtain ⟨f1, f2, f3, f4, f5⟩ := id F
  have fin : ∀ r' p', R0 r' → p' 0 2 = 1 → p' 0 6 = z 11 0 6 → MoreV s (p' 4) → Rel (va_up (va_up z 10 r') 11 p') y s ∧ Fsh (va_up (va_up z 10 r') 11 p') y s := by
    intro r' p' g1 g2 g3 g4
    have F' : Fsh (va_up (va_up z 10 r') 11 p') y s := by
      refine ⟨f1, f2, Or.inr ⟨g2, g4⟩, ?_, f5⟩
      obtain ⟨n, n1, n2, n3⟩ := f4
      exact ⟨n, n1, g3.trans n2, n3⟩
    refine ⟨?_, F'⟩
    obtain ⟨h1, h2, h3, h4, h5, h6, h7, h8⟩ := H
    refine ⟨⟨h1.1, fun κ hκ => ?_⟩, h2, h3, fun o ho => ?_, h5, h6, g1, Or.inr ⟨hz, F'⟩⟩
    · rw [up_o (by omega), up_o (by omega)]; exact h1.2 κ hκ
    · rw [up_o (by omega), up_o (by omega)]; exact h4 o ho
  rcases f3 with f3 | ⟨f3, f6⟩
  · obtain ⟨r', p', a1, a2, a3, a4, a5⟩ := f_findMore (pL := y 11) H.1.1 H.2.1 f1 H.2.2.2.2.2.2.1 f3
    have mv : MoreV s (p' 4) := by
      intro t D
      obtain ⟨u', k1, k2, k3⟩ := f_moreBy H.1.1 H.2.1 f1 D
      obtain ⟨r1, r2, r3⟩ := a5
      rw [r1, r2, r3]
      exact ⟨u', k1, k2, k3.1, k3.2⟩
    obtain ⟨g1, g2⟩ := fin r' p' a2 (by rw [a3, upd_s]) (by rw [a3, upd_o (by decide)]) mv
    exact ⟨r', p', a1, mv, g1, g2⟩
  · refine ⟨z 10, z 11, ?_, f6, ?_⟩
    · unfold fX3_findMore
      rw [if_neg (by rw [f3]; decide)]
    · exact fin _ _ H.2.2.2.2.2.2.1 f3 rfl f6
theorem x_101 {x : Int32} (h1 : ¬ x < -1) (h2 : ¬ 1 < x) : x = -1 ∨ x = 0 ∨ x = 1 := by
  rw [Int32.lt_iff_toInt_lt] at h1 h2
  have e1 : (-1 : Int32).toInt = -1 := by decide
  have e2 : (1 : Int32).toInt = 1 := by decide
  rw [e1] at h1
  rw [e2] at h2
  have : x.toInt = -1 ∨ x.toInt = 0 ∨ x.toInt = 1 := by omega
  rcases this with c | c | c
  · left; apply Int32.toInt_inj.mp; rw [c, e1]
  · right; left; apply Int32.toInt_inj.mp; rw [c]; decide
  · right; right; apply Int32.toInt_inj.mp; rw [c, e2]
theorem lt2_iff {x : Int32} : (x < 2) = ¬ (1 < x) := by
  apply propext
  rw [Int32.lt_iff_toInt_lt, Int32.lt_iff_toInt_lt]
  have e1 : (2 : Int32).toInt = 2 := by decide
  have e2 : (1 : Int32).toInt = 1 := by decide
  rw [e1, e2]
  omega
theorem c_more {z : Nat → St} {y : Nat → Lt} {s : St} (H : Rel z y s) (x : Int32) : Ans (fX8_more z y x) (fX9_more s x) y := by
  unfold fX8_more fX9_more
  rw [f_in, bd1_s]
  by_cases c1 : x < -1
  · rw [if_pos c1, if_pos (Or.inl c1), if_pos z00]
    exact ⟨_, _, _, rfl, rfl, H⟩
  · rw [if_neg c1]
    by_cases c2 : 1 < x
    · rw [if_neg (by rw [lt2_iff]; exact fun z => z c2), if_pos (Or.inr c2), if_pos z00]
      exact ⟨_, _, _, rfl, rfl, H⟩
    · rw [if_pos (by rw [lt2_iff]; exact c2), if_neg (show ¬ (x < -1 ∨ 1 < x) from fun z => z.elim c1 c2), if_neg n10]
      obtain ⟨z', a1, a2, a3, a4⟩ := f_freshen H
      obtain ⟨r', p', b1, b2, b3, b4⟩ := more_of a2 a3 a4
      obtain ⟨t', d1, d2, d3, d4⟩ := b2 s Dtx.rf
      rw [a1, bd1_s, b1, bd2_s, stp_n, stp_n, d1, bd2_s]
      have e11 : va_up (va_up z' 10 r') 11 p' 11 = p' := rfl
      rw [e11]
      rcases x_101 c1 c2 with rfl | rfl | rfl
      · exact ⟨p' 4 0, _, t', rfl, rfl, Rel_d d2 b3⟩
      · rw [d3, bd1_s]
        exact ⟨p' 4 1, _, t', rfl, rfl, Rel_d d2 b3⟩
      · rw [d4, bd1_s]
        exact ⟨p' 4 2, _, t', rfl, rfl, Rel_d d2 b3⟩
