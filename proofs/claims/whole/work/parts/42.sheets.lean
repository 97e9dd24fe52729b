/-! ===== sheets ===== -/
theorem noSheet_out {x : Int32} (h : x < 0 ∨ nI 3 < x) : fX8_noSuchSheet x = some 1 := by
  unfold fX8_noSuchSheet
  by_cases c : x < 0
  · rw [if_pos c]
  · rw [if_neg c, if_neg (show ¬ x < 4 from lt_suc (N := 3) (by decide) (h.resolve_left c))]
theorem noSheet_in {T : Nat} (h : T ≤ 3) : fX8_noSuchSheet (nI T) = some 0 := by
  unfold fX8_noSuchSheet
  rw [if_neg (nI_pos (by omega)), if_pos (show nI T < 4 from nI_lt (b := 4) (by omega) (by decide))]
theorem isSheet_out {x : Int32} (h : x < 0 ∨ nI 3 < x) : fX9_isSheet x = some 0 := by
  unfold fX9_isSheet
  rw [show fX9_in x 0 3 = some 0 from in_out h, bd1_s]; rfl
theorem isSheet_in {T : Nat} (h : T ≤ 3) : fX9_isSheet (nI T) = some 1 := by
  unfold fX9_isSheet
  rw [in_in (b := 3) h (by decide) rfl, bd1_s]; rfl
theorem noForm_out {x : Int32} (h : x < 0 ∨ nI 2 < x) : fX8_noSuchForm x = some 1 := by
  unfold fX8_noSuchForm
  by_cases c : x < 0
  · rw [if_pos c]
  · rw [if_neg c, if_neg (show ¬ x < 3 from lt_suc (N := 2) (by decide) (h.resolve_left c))]
theorem noForm_in {T : Nat} (h : T ≤ 2) : fX8_noSuchForm (nI T) = some 0 := by
  unfold fX8_noSuchForm
  rw [if_neg (nI_pos (by omega)), if_pos (show nI T < 3 from nI_lt (b := 3) (by omega) (by decide))]
/-- by the number of a sheet, the four branches of the class -/
theorem sel4 {α : Type} {E : Option α} {o : Nat} (P : Nat → Option α) {A B C D : Option α} (h : o ≤ 3) (hA : A = P 0) (hB : B = P 1) (hC : C = P 2) (hD : D = P 3) : (if nI o = 0 then A else if nI o = 1 then B else if nI o = 2 then C else if nI o = 3 then D else E) = P o := by
  obtain rfl | rfl | rfl | rfl : o = 0 ∨ o = 1 ∨ o = 2 ∨ o = 3 := by omega
  · exact hA
  · exact hB
  · exact hC
  · exact hD
theorem Rel_find {z : Nat → St} {y : Nat → Lt} {s : St} (H : Rel z y s) (x : Int32) : Rel (va_up z 0 (sS (z 0) 0 9 x)) y (sS s 0 43 x) := by
  obtain ⟨h1, h2, h3, h4, h5, h6, h7, h8⟩ := H
  have D : Dtx s (sS s 0 43 x) := ⟨rfl, rfl, rfl, rfl⟩
  refine ⟨TxR_of (fun κ' hκ' => ?_), h2, h3, fun q hq => ?_, rfl, h6, h7, ?_⟩
  · rw [up_o (by omega)]
    exact TxP_same (TxP_of h1 hκ') rfl (fun k hk => rfl)
  · rw [up_o (by omega)]
    exact h4 q hq
  · rcases h8 with h8 | ⟨h8, h9⟩
    · exact Or.inl h8
    · exact Or.inr ⟨h8, Fsh_x D h9⟩
theorem f_find (z : Nat → St) (y : Nat → Lt) (x : Int32) : fX8_find z y x = some (-10 - x, va_up z 0 (sS (z 0) 0 9 x)) := rfl
theorem f_meets (s : St) (x : Int32) : fX9_meets s x = some (-10 - x, sS s 0 43 x) := rfl
theorem Ans_find {z : Nat → St} {y : Nat → Lt} {s : St} (H : Rel z y s) (x : Int32) : Ans (bd2 (fX8_find z y x) (fun r z => some (r, z))) (bd2 (fX9_meets s x) (fun r s => some (r, s))) y := ⟨_, _, _, rfl, rfl, Rel_find H x⟩
theorem Fsh_up {z : Nat → St} {y : Nat → Lt} {s : St} {o : Nat} (e' : St) (h8 : o ≠ 8) (h9 : o ≠ 9) (h11 : o ≠ 11) (h12 : o ≠ 12) (F : Fsh z y s) : Fsh (va_up z o e') y s := by
  have e8 : va_up z o e' 8 = z 8 := up_o (by omega)
  have e9 : va_up z o e' 9 = z 9 := up_o (by omega)
  have e11 : va_up z o e' 11 = z 11 := up_o (by omega)
  have e12 : va_up z o e' 12 = z 12 := up_o (by omega)
  unfold Fsh
  rw [e8, e9, e11, e12]
  exact F
theorem Rel_sheet {z : Nat → St} {y : Nat → Lt} {s : St} (H : Rel z y s) {o : Nat} (ho : o < 4) (e' s' : St) (hE : Sh1 e' s' o) (hO : ∀ q, q < 4 → q ≠ o → Sh1 (z (4 + q)) s' q) (e : ∀ c, c ≠ 39 → c ≠ 40 → c ≠ 41 → c ≠ 42 → c ≠ 43 → s' c = s c) : Rel (va_up z (4 + o) e') y s' := by
  obtain ⟨h1, h2, h3, h4, h5, h6, h7, h8⟩ := H
  have e0 := e 0 (by decide) (by decide) (by decide) (by decide) (by decide)
  have e1 := e 1 (by decide) (by decide) (by decide) (by decide) (by decide)
  have e2 := e 2 (by decide) (by decide) (by decide) (by decide) (by decide)
  have D : Dtx s s' := ⟨e1, e2, by rw [e0], by rw [e0]⟩
  have g8 : va_up z (4 + o) e' 8 = z 8 := up_o (by omega)
  have g9 : va_up z (4 + o) e' 9 = z 9 := up_o (by omega)
  have g10 : va_up z (4 + o) e' 10 = z 10 := up_o (by omega)
  have g13 : va_up z (4 + o) e' 13 = z 13 := up_o (by omega)
  have g0 : va_up z (4 + o) e' 0 = z 0 := up_o (by omega)
  refine ⟨TxR_of (fun κ' hκ' => ?_), ?_, ?_, fun q hq => ?_, ?_, ?_, ?_, ?_⟩
  · rw [up_o (by omega)]
    exact TxP_same (TxP_of h1 hκ') (by rw [e1]) (fun k hk => by rw [e2])
  · rw [g8]; exact Sts_d D h2
  · rw [g13]; unfold Sgt; rw [e0, e 36 (by decide) (by decide) (by decide) (by decide) (by decide), e 37 (by decide) (by decide) (by decide) (by decide) (by decide)]; exact h3
  · by_cases c : q = o
    · rw [c, up_s]; exact hE
    · rw [up_o (by omega)]; exact hO q hq c
  · rw [g0, e0]; exact h5
  · rw [g9]; exact h6
  · rw [g10]; exact h7
  · rw [g0]
    rcases h8 with h8 | ⟨h8, h9⟩
    · exact Or.inl h8
    · exact Or.inr ⟨h8, Fsh_up e' (by omega) (by omega) (by omega) (by omega) (Fsh_x D h9)⟩
theorem Sh1_same {e s s' : St} {o : Nat} (h : Sh1 e s o) (e39 : s' 39 o = s 39 o) (e40 : s' 40 o = s 40 o) (e41 : s' 41 o = s 41 o) (e42 : ∀ k, k < 60 → s' 42 (60 * o + k) = s 42 (60 * o + k)) : Sh1 e s' o := by
  obtain ⟨a, b, c, d⟩ := h
  refine ⟨by rw [e39]; exact a, by rw [e40]; exact b, by rw [e41]; exact c, fun k hk => ?_⟩
  rw [e42 k hk]; exact d k hk
theorem Sh1_there {e s : St} {o : Nat} (h : Sh1 e s o) : (e 0 0 = 0 ∧ s 39 o = 1) ∨ (e 0 0 = 1 ∧ s 39 o = 0) := by
  rcases h.1 with ⟨a, b⟩ | ⟨a, b⟩
  · exact Or.inl ⟨b, a⟩
  · exact Or.inr ⟨b, a⟩
theorem c_lose {z : Nat → St} {y : Nat → Lt} {s : St} (H : Rel z y s) (x : Int32) : Ans (fX8_lose z y x) (fX9_lose s x) y := by
  unfold fX8_lose fX9_lose
  rcases rng x 3 (by decide) with h | ⟨o, ho, rfl⟩
  · rw [noSheet_out h, isSheet_out h, bd1_s, bd1_s, if_neg n10, if_pos z00]
    exact ⟨_, _, _, rfl, rfl, H⟩
  · rw [noSheet_in ho, isSheet_in ho, bd1_s, bd1_s, if_pos z00, if_neg n10, rd_nI rfl (show o < 4 by omega) (by decide)]
    rw [sel4 (fun q => if z (4 + q) 0 0 = 0 then stp (va_up z (4 + q) (sS (z (4 + q)) 0 0 1)) (fun z6 => some (z6 (4 + q) 0 2, z6)) else bd2 (fX8_find z y 1) (fun r z => some (r, z))) ho rfl rfl rfl rfl]
    have h1 := H.2.2.2.1 o (by omega)
    rcases Sh1_there h1 with ⟨a, b⟩ | ⟨a, b⟩
    · obtain ⟨n, n1, n2, n3⟩ := h1.2.2.1
      have e2 : va_up z (4 + o) (sS (z (4 + o)) 0 0 1) (4 + o) 0 2 = nI n := by rw [up_s]; exact n3
      rw [if_pos a, b, if_neg n10, wr_nI rfl (show o < 4 by omega) (by decide), rd_nI rfl (show o < 4 by omega) (by decide), sS_o (show (41 : Nat) ≠ 39 by decide), n2, stp_n, e2]
      refine ⟨_, _, _, rfl, rfl, Rel_sheet H (by omega) _ _ ⟨Or.inr ⟨?_, rfl⟩, h1.2.1, h1.2.2.1, h1.2.2.2⟩ (fun q hq hne => Sh1_same (H.2.2.2.1 q hq) ?_ rfl rfl (fun _ _ => rfl)) (fun c c1 _ _ _ _ => by rw [sS_o c1])⟩
      · rw [sS_s, upd_s]
      · rw [sS_s, upd_o hne]
    · rw [a, if_neg n10, b, if_pos z00]
      exact Ans_find H 1
theorem mk_e (e : St) (f : Int32) {m : Nat} (hm : m ≤ 60) : fX5_make e f (nI m) = some (va_up (sS (sS (sS e 0 0 0) 0 1 f) 0 2 (nI m)) 4 (fil (fun _ => 0) (e 4) 60)) := by
  unfold fX5_make
  have c1 : ¬ (60 : Int32) < nI m := nI_nlt (b := m) (a := 60) hm (by decide)
  have c2 : (if (0 : Int32) < nI m then nI m else 0) = nI m := by
    by_cases d : m = 0
    · rw [d]; rfl
    · rw [if_pos (show (0 : Int32) < nI m from nI_lt (a := 0) (by omega) (by omega))]
  rw [if_neg c1, c2, stp_n, stp_n, stp_n, f_fill (by decide), bd1_s, stp_n]
  rfl
theorem f_sheet_59 {o : Nat} (ho : o < 4) (x : Int32) : ∀ (m i N : Nat) (u : St), m + i = 60 → m < N → ∃ u', fX9_sheet_59 N (nI o) x (nI i) u = some (x, u') ∧ (∀ c, c ≠ 42 → u' c = u c) ∧ ∀ k, u' 42 k = if 60 * o + i ≤ k ∧ k < 60 * o + 60 then 0 else u 42 k
  | 0, i, N, u, e, hN => by
    obtain ⟨N, rfl⟩ : ∃ M, N = M + 1 := ⟨N - 1, by omega⟩
    refine ⟨u, ?_, fun _ _ => rfl, fun k => ?_⟩
    · rw [fX9_sheet_59, if_pos (by rw [show (60 : Int32) = nI 60 from rfl, nI_le' (by omega) (by omega)]; omega)]
    · rw [if_neg (by omega)]
  | m + 1, i, N, u, e, hN => by
    obtain ⟨N, rfl⟩ : ∃ M, N = M + 1 := ⟨N - 1, by omega⟩
    rw [fX9_sheet_59, if_neg (by rw [show (60 : Int32) = nI 60 from rfl, nI_le' (by omega) (by omega)]; omega), show (60 : Int32) = nI 60 from rfl, nI_mul, nI_add, wr_nI rfl (show 60 * o + i < 240 by omega) (by decide), stp_n, nI_1]
    obtain ⟨u', a1, a2, a3⟩ := f_sheet_59 ho x m (i + 1) N (sS u 42 (60 * o + i) 0) (by omega) (by omega)
    refine ⟨u', a1, fun c hc => by rw [a2 c hc, sS_o hc], fun k => ?_⟩
    rw [a3 k, sS_s]
    by_cases c : k = 60 * o + i
    · rw [c, upd_s, if_neg (by omega), if_pos (by omega)]
    · rw [upd_o c]
      have : (60 * o + (i + 1) ≤ k ∧ k < 60 * o + 60) = (60 * o + i ≤ k ∧ k < 60 * o + 60) := by apply propext; omega
      simp only [this]
theorem c_sheet {z : Nat → St} {y : Nat → Lt} {s : St} (H : Rel z y s) (x1 x2 x3 : Int32) : Ans (fX8_sheet z y x1 x2 x3) (fX9_sheet s x1 x2 x3) y := by
  unfold fX8_sheet fX9_sheet
  rcases rng x1 3 (by decide) with h | ⟨o, ho, rfl⟩
  · rw [noSheet_out h, isSheet_out h, bd1_s, bd1_s, if_neg n10, if_pos z00]
    exact ⟨_, _, _, rfl, rfl, H⟩
  · rw [noSheet_in ho, isSheet_in ho, bd1_s, bd1_s, if_pos z00, if_neg n10]
    rcases rng x2 2 (by decide) with h | ⟨f, hf, rfl⟩
    · rw [noForm_out h, show fX9_in x2 0 2 = some 0 from in_out h, bd1_s, bd1_s, if_neg n10, if_pos z00]
      exact ⟨_, _, _, rfl, rfl, H⟩
    · rw [noForm_in hf, in_in (b := 2) hf (by decide) rfl, bd1_s, bd1_s, if_pos z00, if_neg n10]
      by_cases c : x3 ≤ 60
      · rw [if_pos c, if_pos c]
        by_cases d : 0 ≤ x3
        · rw [if_pos d, if_pos d]
          obtain ⟨m, hm, rfl⟩ := nI_of2 (x := x3) (M := 60) (n := 60) rfl (Int32.not_lt.mpr d) c
          rw [sel4 (fun q => bd1 (fX5_make (z (4 + q)) (nI f) (nI m)) (fun e => stp (va_up z (4 + q) e) (fun z12 => some (nI m, z12)))) ho rfl rfl rfl rfl, mk_e _ _ hm, bd1_s, stp_n, wr_nI rfl (show o < 4 by omega) (by decide), wr_nI rfl (show o < 4 by omega) (by decide), wr_nI rfl (show o < 4 by omega) (by decide)]
          obtain ⟨u', a1, a2, a3⟩ := f_sheet_59 (show o < 4 by omega) (nI m) 60 0 300 (sS (sS (sS s 39 o 1) 40 o (nI f)) 41 o (nI m)) (by omega) (by omega)
          refine ⟨_, _, u', rfl, a1, Rel_sheet H (by omega) _ _ ⟨Or.inl ⟨?_, rfl⟩, ?_, ⟨m, hm, ?_, rfl⟩, fun k hk => ?_⟩ (fun q hq hne => Sh1_same (H.2.2.2.1 q hq) ?_ ?_ ?_ (fun k hk => ?_)) (fun c c1 c2 c3 c4 _ => by rw [a2 c c4, sS_o c3, sS_o c2, sS_o c1])⟩
          · rw [a2 39 (by decide), sS_o (by decide), sS_o (by decide), sS_s, upd_s]
          · rw [a2 40 (by decide), sS_o (by decide), sS_s, upd_s]; rfl
          · rw [a2 41 (by decide), sS_s, upd_s]
          · rw [up_s, fil_in hk, a3, if_pos (by omega)]
          · rw [a2 39 (by decide), sS_o (by decide), sS_o (by decide), sS_s, upd_o hne]
          · rw [a2 40 (by decide), sS_o (by decide), sS_s, upd_o hne, sS_o (by decide)]
          · rw [a2 41 (by decide), sS_s, upd_o hne, sS_o (by decide), sS_o (by decide)]
          · rw [a3, if_neg (by omega), sS_o (by decide), sS_o (by decide), sS_o (by decide)]
        · rw [if_neg d, if_neg d]
          exact Ans_find H 5
      · rw [if_neg c, if_neg c]
        exact ⟨_, _, _, rfl, rfl, H⟩
/-- whether an item is refused: both alike -/
theorem refu {e s : St} {o : Nat} (h : Sh1 e s o) (ho : o < 4) (f x : Int32) : (∃ r, ¬ r = 0 ∧ ¬ r ≤ 0 ∧ fX5_refuses e f x = some r ∧ fX9_lacks s (nI o) f x = some r) ∨ ∃ i, i < 60 ∧ x = nI i ∧ fX5_refuses e f x = some 0 ∧ fX9_lacks s (nI o) f x = some 0 ∧ nI i < e 0 2 := by
  obtain ⟨h1, h2, ⟨n, n1, n2, n3⟩, h4⟩ := id h
  unfold fX5_refuses fX9_lacks
  rw [rd_nI rfl ho (by decide)]
  rcases Sh1_there h with ⟨a, b⟩ | ⟨a, b⟩
  · rw [if_pos a, b, if_neg n10, rd_nI rfl ho (by decide), ← h2]
    by_cases c : e 0 1 = f
    · rw [if_pos c, if_pos c, rd_nI rfl ho (by decide), n2, n3]
      rcases rng2 x n (by omega) with g | ⟨i, hi, rfl⟩
      · left
        refine ⟨2, by decide, by decide, ?_, by rw [in_out2 (by omega) g, bd1_s, if_pos z00]⟩
        by_cases d : x < 0
        · rw [if_pos d]
        · rw [if_neg d, if_neg (Int32.not_lt.mpr (g.resolve_left d))]
      · right
        refine ⟨i, by omega, rfl, ?_, by rw [in_in2 (by omega) hi, bd1_s, if_neg n10], nI_lt hi (by omega)⟩
        rw [if_neg (nI_pos (by omega)), if_pos (nI_lt hi (by omega))]
    · rw [if_neg c, if_neg c]
      exact Or.inl ⟨3, by decide, by decide, rfl, rfl⟩
  · rw [a, if_neg n10, b, if_pos z00]
    exact Or.inl ⟨1, by decide, by decide, rfl, rfl⟩
theorem c_get {z : Nat → St} {y : Nat → Lt} {s : St} (H : Rel z y s) (x1 x2 x3 : Int32) : Ans (fX8_get z y x1 x2 x3) (fX9_get s x1 x2 x3) y := by
  unfold fX8_get fX9_get
  rcases rng x1 3 (by decide) with h | ⟨o, ho, rfl⟩
  · rw [noSheet_out h, isSheet_out h, bd1_s, bd1_s, if_neg n10, if_pos z00]
    exact ⟨_, _, _, rfl, rfl, H⟩
  · rw [noSheet_in ho, isSheet_in ho, bd1_s, bd1_s, if_pos z00, if_neg n10]
    rcases rng x2 2 (by decide) with h | ⟨f, hf, rfl⟩
    · rw [noForm_out h, show fX9_in x2 0 2 = some 0 from in_out h, bd1_s, bd1_s, if_neg n10, if_pos z00]
      exact ⟨_, _, _, rfl, rfl, H⟩
    · rw [noForm_in hf, in_in (b := 2) hf (by decide) rfl, bd1_s, bd1_s, if_pos z00, if_neg n10]
      rw [sel4 (fun q => bd1 (fX5_refuses (z (4 + q)) (nI f) x3) (fun r8 => if r8 = 0 then (chk x3 60 (stp (z (4 + q) 4 (ix x3)) (fun v12 => some (v12, z)))) else (stp (va_up z 0 (sS (z 0) 0 9 r8)) (fun z14 => some (((-2147483648 : Int32)), z14))))) ho rfl rfl rfl rfl]
      have h1 := H.2.2.2.1 o (by omega)
      rcases refu h1 (by omega) (nI f) x3 with ⟨r, r1, r2, r3, r4⟩ | ⟨i, i1, rfl, i3, i4, -⟩
      · rw [r3, bd1_s, if_neg r1, r4, bd1_s, if_neg r2, stp_n, stp_n]
        exact ⟨_, _, _, rfl, rfl, Rel_find H r⟩
      · rw [i3, bd1_s, if_pos z00, i4, bd1_s, if_pos (show (0 : Int32) ≤ 0 by decide), rd_nI rfl i1 (by decide), show (60 : Int32) = nI 60 from rfl, nI_mul, nI_add, rd_nI rfl (show 60 * o + i < 240 by omega) (by decide), h1.2.2.2 i i1]
        exact ⟨_, _, _, rfl, rfl, H⟩
def cnv (f v : Int32) : Int32 := if f = 0 then (v : Int32).toInt8.toInt32 else if f = 1 then (v : Int32).toInt16.toInt32 else v
theorem f_store {e : St} {i : Nat} (hi : i < 60) (h : nI i < e 0 2) (v : Int32) : fX5_store e (nI i) v = some (sS e 4 i (cnv (e 0 1) v)) := by
  unfold fX5_store cnv
  rw [if_neg (nI_pos (by omega)), if_pos h, wr_nI rfl hi (by decide), wr_nI rfl hi (by decide), wr_nI rfl hi (by decide)]
  by_cases c : e 0 1 = 0
  · rw [if_pos c, if_pos c]
  · rw [if_neg c, if_neg c]
    by_cases d : e 0 1 = 1
    · rw [if_pos d, if_pos d]
    · rw [if_neg d, if_neg d]
theorem f_keep {s : St} {o i : Nat} (ho : o < 4) (hi : i < 60) (v : Int32) : fX9_keep s (nI o) (nI i) v = some (sS s 42 (60 * o + i) (cnv (s 40 o) v)) := by
  unfold fX9_keep cnv
  rw [show (60 : Int32) = nI 60 from rfl, nI_mul, nI_add, rd_nI rfl ho (by decide), rd_nI rfl ho (by decide), wr_nI rfl (show 60 * o + i < 240 by omega) (by decide), wr_nI rfl (show 60 * o + i < 240 by omega) (by decide), wr_nI rfl (show 60 * o + i < 240 by omega) (by decide)]
  by_cases c : s 40 o = 0
  · rw [if_pos c, if_pos c]
  · rw [if_neg c, if_neg c]
    by_cases d : s 40 o = 1
    · rw [if_pos d, if_pos d]
    · rw [if_neg d, if_neg d]
theorem Rel_item {z : Nat → St} {y : Nat → Lt} {s : St} (H : Rel z y s) {o i : Nat} (ho : o < 4) (hi : i < 60) (v : Int32) : Rel (va_up z (4 + o) (sS (z (4 + o)) 4 i (cnv (z (4 + o) 0 1) v))) y (sS s 42 (60 * o + i) (cnv (s 40 o) v)) := by
  have h1 := H.2.2.2.1 o ho
  refine Rel_sheet H ho _ _ ⟨h1.1, h1.2.1, h1.2.2.1, fun k hk => ?_⟩ (fun q hq hne => Sh1_same (H.2.2.2.1 q hq) rfl rfl rfl (fun k hk => ?_)) (fun c _ _ _ c4 _ => by rw [sS_o c4])
  · rw [sS_s, sS_s, h1.2.1]
    by_cases c : k = i
    · rw [c, upd_s, upd_s]
    · rw [upd_o c, upd_o (by omega)]; exact h1.2.2.2 k hk
  · rw [sS_s, upd_o (by omega)]
theorem c_put {z : Nat → St} {y : Nat → Lt} {s : St} (H : Rel z y s) (x1 x2 x3 x4 : Int32) : Ans (fX8_put z y x1 x2 x3 x4) (fX9_put s x1 x2 x3 x4) y := by
  unfold fX8_put fX9_put
  rcases rng x1 3 (by decide) with h | ⟨o, ho, rfl⟩
  · rw [noSheet_out h, isSheet_out h, bd1_s, bd1_s, if_neg n10, if_pos z00]
    exact ⟨_, _, _, rfl, rfl, H⟩
  · rw [noSheet_in ho, isSheet_in ho, bd1_s, bd1_s, if_pos z00, if_neg n10]
    rcases rng x2 2 (by decide) with h | ⟨f, hf, rfl⟩
    · rw [noForm_out h, show fX9_in x2 0 2 = some 0 from in_out h, bd1_s, bd1_s, if_neg n10, if_pos z00]
      exact ⟨_, _, _, rfl, rfl, H⟩
    · rw [noForm_in hf, in_in (b := 2) hf (by decide) rfl, bd1_s, bd1_s, if_pos z00, if_neg n10]
      rw [sel4 (fun q => bd1 (fX5_refuses (z (4 + q)) (nI f) x3) (fun r8 => if r8 = 0 then (bd1 (fX5_store (z (4 + q)) x3 x4) (fun e12 => stp (va_up z (4 + q) e12) (fun z14 => some ((1 : Int32), z14)))) else (bd2 (fX8_find z y r8) (fun r16 z17 => some (r16, z17))))) ho rfl rfl rfl rfl]
      have h1 := H.2.2.2.1 o (by omega)
      rcases refu h1 (by omega) (nI f) x3 with ⟨r, r1, r2, r3, r4⟩ | ⟨i, i1, rfl, i3, i4, i5⟩
      · rw [r3, bd1_s, if_neg r1, r4, bd1_s, if_neg r2]
        exact Ans_find H r
      · rw [i3, bd1_s, if_pos z00, i4, bd1_s, if_pos (show (0 : Int32) ≤ 0 by decide), f_store i1 i5, bd1_s, stp_n, f_keep (by omega) i1, bd1_s]
        exact ⟨_, _, _, rfl, rfl, Rel_item H (by omega) i1 x4⟩
