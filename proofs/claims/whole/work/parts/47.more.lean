/-! ===== a ride that may go on ===== -/
def RidP (h s r : St) (S : Int32) (fs : List Nat) : Prop := ∀ gs t, Rdy h s t S (fs ++ gs) → ∃ t' hf j w fl, fX9_runs t = fX9_runs_8 (300 - fs.length) (nI fl) (nI fs.length) t' ∧ Rid h r t' (nrS s) (nlS s) hf j w fl ∧ j ≤ 2 * fs.length ∧ w ≤ 11 * fs.length ∧ Frm t t'
theorem begin_all {h s r0 : St} (hk : Tok s) (hs : Sts h s) (hH : HsT h s) (S : Int32) (h0 : R0 r0) : ∃ r1, fX4_begin h r0 S = some r1 ∧ ∀ fs, BegS h s r1 S fs := by
  obtain ⟨t, ht⟩ := Rdy_ex (fs := []) hk hs S (by decide) (fun f hf => by cases hf)
  obtain ⟨hf1, a, b⟩ := Rdy_hou hk hH ht
  obtain ⟨r1, c, d⟩ := Beg_begin a b h0
  refine ⟨r1, c, fun fs t2 ht2 => ?_⟩
  obtain ⟨hf2, a2, b2⟩ := Rdy_hou hk hH ht2
  obtain ⟨r2, c2, d2⟩ := Beg_begin a2 b2 h0
  rw [c] at c2
  cases c2
  exact d2
theorem getD_app {α : Type} {fs gs : List α} {i : Nat} {d : α} (h : i < fs.length) : (fs ++ gs).getD i d = fs.getD i d := by
  rw [List.getD_eq_getElem?_getD, List.getElem?_append_left h, List.getD_eq_getElem?_getD]
theorem RidP_of {h s r1 : St} {S : Int32} {fs : List Nat} (hk : Tok s) (hs : Sts h s) (hH : HsT h s) (h22 : fs.length ≤ 22) (hf : ∀ f, f ∈ fs → f < 10) (hB : ∀ fs, BegS h s r1 S fs) : ∃ r, goL h fs r1 = some r ∧ R0 r ∧ RidP h s r S fs := by
  have key : ∀ gs t, Rdy h s t S (fs ++ gs) → ∃ r t' hf j w fl, goL h fs r1 = some r ∧ fX9_runs t = fX9_runs_8 (300 - fs.length) (nI fl) (nI fs.length) t' ∧ Rid h r t' (nrS s) (nlS s) hf j w fl ∧ j ≤ 2 * fs.length ∧ w ≤ 11 * fs.length ∧ Frm t t' := by
    intro gs t ht
    obtain ⟨hf1, a, b⟩ := Rdy_hou hk hH ht
    obtain ⟨w1, w2, w3, w4⟩ := ht.2.2.2
    obtain ⟨r', t', j, w, fl, c1, c2, c3, c4, c5, c6⟩ := RR_from (fs := fs) a (hB _ t ht) w1 (fun i hi => by
      rw [w2 i (by rw [List.length_append]; omega), getD_app hi]) (by rw [List.length_append]; omega) w3 hf
    exact ⟨r', t', hf1, j, w, fl, c1, c2, c3, c4, c5, c6⟩
  obtain ⟨t, ht⟩ := Rdy_ex (fs := fs ++ []) hk hs S (by simpa using h22) (by simpa using hf)
  obtain ⟨r, t', hf1, j, w, fl, c1, c2, c3, c4, c5, c6⟩ := key [] t ht
  refine ⟨r, c1, c3.2.2.2.2.2.2.1, fun gs t2 ht2 => ?_⟩
  obtain ⟨r2, t2', hf2, j2, w2, fl2, d1, d2, d3, d4, d5, d6⟩ := key gs t2 ht2
  rw [c1] at d1
  cases d1
  exact ⟨t2', hf2, j2, w2, fl2, d2, d3, d4, d5, d6⟩
theorem RidP_V {h s r : St} {S : Int32} {fs : List Nat} (h22 : fs.length ≤ 22) (H : RidP h s r S fs) : RidV h s r S fs := fun t ht => by
  obtain ⟨t', hf, j, w, fl, a1, a2, a3, a4, a5⟩ := H [] t (by rw [List.append_nil]; exact ht)
  refine ⟨t', hf, j, w, fl, ?_, a2, a5⟩
  rw [a1, runs_end (t := t') (n := fs.length) (by rw [Frm13 a5]; exact ht.2.2.2.1) (by omega) (by omega)]
/-- r has the rows of rb, perhaps more behind them -/
def AgO (rb r : St) : Prop := r 0 10 = rb 0 10 ∧ r 12 = rb 12 ∧ ∀ j, rb 0 9 = nI (j + 1) → j ≤ 44 → ∀ c i, c ≠ 0 → i ≤ j → r c i = rb c i
theorem AgO.rf {r : St} : AgO r r := ⟨rfl, rfl, fun _ _ _ _ _ _ _ => rfl⟩
theorem nI_in2 {a b : Nat} (ha : a < 2 ^ 31) (hb : b < 2 ^ 31) (h : nI a = nI b) : a = b := (nI_eq ha hb).mp h
/-- a stop more, from rows taken back -/
theorem RidP_on {h s rb r : St} {S : Int32} {fs : List Nat} {a : Nat} (hk : Tok s) (hs : Sts h s) (h22 : fs.length + 1 ≤ 22) (hf : ∀ f, f ∈ fs → f < 10) (ha : a < 10) (H : RidP h s rb S fs) (hA : AgO rb r) : ∃ r3, fX4_goTo h (sS r 0 9 (rb 0 9)) (nI a) = some r3 ∧ RidP h s r3 S (fs ++ [a]) ∧ R0 r3 ∧ AgO rb r3 ∧ ∀ r4, AgO r3 r4 → AgO rb r4 := by
  have key : ∀ gs t, Rdy h s t S ((fs ++ [a]) ++ gs) → ∃ r3 t' hf j w fl, fX4_goTo h (sS r 0 9 (rb 0 9)) (nI a) = some r3 ∧ fX9_runs t = fX9_runs_8 (300 - (fs ++ [a]).length) (nI fl) (nI (fs ++ [a]).length) t' ∧ Rid h r3 t' (nrS s) (nlS s) hf j w fl ∧ j ≤ 2 * (fs ++ [a]).length ∧ w ≤ 11 * (fs ++ [a]).length ∧ Frm t t' ∧ ∃ jb, rb 0 9 = nI (jb + 1) ∧ jb ≤ 44 ∧ jb ≤ j ∧ r3 0 10 = rb 0 10 ∧ r3 12 = rb 12 ∧ ∀ c i, c ≠ 0 → i ≤ jb → r3 c i = rb c i := by
    intro gs t ht
    rw [List.append_assoc] at ht
    obtain ⟨t1, hf1, j, w, fl, a1, a2, a3, a4, a5⟩ := H ([a] ++ gs) t ht
    have hj := a2.2.2.2.2.1
    have e9 : rb 0 9 = nI (j + 1) := a2.1.2.2.1.1
    have hold := hA.2.2 j e9 hj
    have Hr : Rid h (sS r 0 9 (rb 0 9)) t1 (nrS s) (nlS s) hf1 j w fl := Rid_ext a2 (fun c i hc hi => by rw [sS_o hc]; exact hold c i hc hi) (by rw [sS_s, upd_s]) hA.1 hA.2.1
    obtain ⟨h1, h2, h3, h4, h5, h6, h7, h8, h9, h10, h11⟩ := Hr
    obtain ⟨w1, w2, w3, w4⟩ := ht.2.2.2
    obtain ⟨r3, t', j', w', fl', b1, b2, b3, b4, b5, b6, b7, b8, b9, F, c1, c2, c3, c4, c5, c6, c7⟩ := RR_pre [a] fs.length (300 - (fs ++ [a]).length) (fs ++ ([a] ++ gs)).length (sS r 0 9 (rb 0 9)) t1 j w fl h1 h2 h3 h4 (fun f hf2 => by
      rw [List.mem_singleton] at hf2; rw [hf2]; exact ha) (by rw [Frm13 a5]; exact w1) (fun i hi => by
      have hi0 : i = 0 := by simpa using hi
      rw [Frm15 a5, hi0, w2 _ (by simp)]
      congr 1
      rw [List.getD_eq_getElem?_getD, List.getElem?_append_right (by omega)]
      simp) (by simp) w3 a3 a4
    have el : (fs ++ [a]).length = fs.length + 1 := by simp
    rw [el] at b2
    rw [show 300 - (fs.length + 1) + [a].length = 300 - fs.length by simp; omega, show fs.length + [a].length = fs.length + 1 by simp] at b2
    have g1 : fX4_goTo h (sS r 0 9 (rb 0 9)) (nI a) = some r3 := by
      rw [goL] at b1
      cases hg : fX4_goTo h (sS r 0 9 (rb 0 9)) (nI a) with
      | none => rw [hg] at b1; cases b1
      | some x => rw [hg] at b1; exact b1
    have b8' : j' ≤ 2 * (fs ++ [a]).length := by simpa using b8
    have b9' : w' ≤ 11 * (fs ++ [a]).length := by simpa using b9
    refine ⟨r3, t', hf1, j', w', fl', g1, ?_, ⟨b3, b4, b5, b6, by omega, by omega, ?_, c4 h8, c5 h9, c6 h10, c7 h11⟩, b8', b9', a5.tr F, j, e9, hj, b7, c1.trans hA.1, c2.trans hA.2.1, fun c i hc hi => ?_⟩
    · rw [el, a1, b2]
    · unfold R0
      rw [c3 2 0 (by decide) (by omega), c3 3 0 (by decide) (by omega), c3 4 0 (by decide) (by omega), c3 5 0 (by decide) (by omega), c3 6 0 (by decide) (by omega), c3 7 0 (by decide) (by omega), c3 9 0 (by decide) (by omega)]
      exact h7
    · rw [c3 c i hc hi, sS_o hc]; exact hold c i hc hi
  obtain ⟨t, ht⟩ := Rdy_ex (fs := (fs ++ [a]) ++ []) hk hs S (by simpa using h22) (by
    intro f hf2
    simp at hf2
    rcases hf2 with z | z
    · exact hf f z
    · omega)
  obtain ⟨r3, t', hf1, j, w, fl, c1, c2, c3, c4, c5, c6, jb, d1, d2, d3, d4, d5, d6⟩ := key [] t ht
  have hA3 : AgO rb r3 := ⟨d4, d5, fun j2 e2 hj2 c i hc hi => d6 c i hc (by
    have := nI_in2 (by omega) (by omega) (d1.symm.trans e2); omega)⟩
  refine ⟨r3, c1, fun gs t2 ht2 => ?_, c3.2.2.2.2.2.2.1, hA3, fun r4 h4 => ⟨h4.1.trans d4, h4.2.1.trans d5, fun j2 e2 hj2 c i hc hi => ?_⟩⟩
  · obtain ⟨r3', t2', hf2, j2, w2, fl2, e1, e2, e3, e4, e5, e6, -⟩ := key gs t2 ht2
    rw [c1] at e1
    cases e1
    exact ⟨t2', hf2, j2, w2, fl2, e2, e3, e4, e5, e6⟩
  · have := nI_in2 (by omega) (by omega) (d1.symm.trans e2)
    rw [h4.2.2 j c3.1.2.2.1.1 c3.2.2.2.2.1 c i hc (by omega)]
    exact d6 c i hc (by omega)
/-! ===== whether all arrive ===== -/
noncomputable def aaB (h s : St) (gs : List Nat) : Bool := @decide (∃ u u', Rdy h s u (allM (nlS s)) (wyT s (-1) (-1) ++ gs) ∧ fX9_runs u = some u' ∧ fX9_arrivedNow u' 255 = some (allM (nrS s))) (Classical.propDecidable _)
theorem aa_of {h s r : St} {gs : List Nat} (hk : Tok s) (hs : Sts h s) (h2 : gs.length ≤ 2) (hg : ∀ f, f ∈ gs → f < 10) (hR : RidV h s r (allM (nlS s)) (wyT s (-1) (-1) ++ gs)) : fX4_allArrived h r = some (if aaB h s gs then 1 else 0) ∧ ∀ u, Rdy h s u (allM (nlS s)) (wyT s (-1) (-1) ++ gs) → ∃ u' v, fX9_runs u = some u' ∧ Frm u u' ∧ u' 0 2 = nI (nrS s) ∧ fX9_arrivedNow u' 255 = some v ∧ (v = allM (nrS s) ↔ aaB h s gs = true) := by
  have h20 := nsS_20 hk
  have hl := wyT_len s (-1) (-1)
  have key : ∀ u, Rdy h s u (allM (nlS s)) (wyT s (-1) (-1) ++ gs) → ∃ u' v, fX9_runs u = some u' ∧ Frm u u' ∧ u' 0 2 = nI (nrS s) ∧ fX9_arrivedNow u' 255 = some v ∧ fX4_allArrived h r = some (if v = allM (nrS s) then 1 else 0) := by
    intro u hu
    obtain ⟨u', hf, j, w, fl, a1, a2, a3⟩ := hR u hu
    exact ⟨u', r 8 j, a1, a3, a2.1.1.1.2.1, q_arrivedEnd a2, q_all a2⟩
  obtain ⟨u0, r0, -⟩ := Rdy_exD hk hs (allM (nlS s)) (fs := wyT s (-1) (-1) ++ gs) (by rw [List.length_append]; omega) (fun f hf => by
    rcases List.mem_append.mp hf with z | z
    · exact wyT_lt hk _ _ f z
    · exact hg f z)
  obtain ⟨u0', v0, a1, a2, a3, a4, a5⟩ := key u0 r0
  have all : ∀ u, Rdy h s u (allM (nlS s)) (wyT s (-1) (-1) ++ gs) → ∃ u' v, fX9_runs u = some u' ∧ Frm u u' ∧ u' 0 2 = nI (nrS s) ∧ fX9_arrivedNow u' 255 = some v ∧ (v = allM (nrS s) ↔ v0 = allM (nrS s)) := by
    intro u hu
    obtain ⟨u', v, b1, b2, b3, b4, b5⟩ := key u hu
    refine ⟨u', v, b1, b2, b3, b4, ?_⟩
    rw [a5] at b5
    by_cases c : v0 = allM (nrS s) <;> by_cases d : v = allM (nrS s)
    · exact ⟨fun _ => c, fun _ => d⟩
    · rw [if_pos c, if_neg d] at b5; simp at b5
    · rw [if_neg c, if_pos d] at b5; simp at b5
    · exact ⟨fun z => absurd z d, fun z => absurd z c⟩
  have eb : (v0 = allM (nrS s)) ↔ aaB h s gs = true := by
    unfold aaB
    constructor
    · intro c
      exact @decide_eq_true _ (Classical.propDecidable _) ⟨u0, u0', r0, a1, by rw [a4, c]⟩
    · intro c
      obtain ⟨u, u', d1, d2, d3⟩ := @of_decide_eq_true _ (Classical.propDecidable _) c
      obtain ⟨u2, v, b1, b2, b3, b4, b5⟩ := all u d1
      rw [d2] at b1
      cases b1
      rw [d3] at b4
      exact b5.mp (Option.some.inj b4).symm
  refine ⟨?_, fun u hu => ?_⟩
  · rw [a5]
    by_cases c : v0 = allM (nrS s)
    · rw [if_pos c, if_pos (eb.mp c)]
    · rw [if_neg c, if_neg (fun z => c (eb.mpr z))]
  · obtain ⟨u', v, b1, b2, b3, b4, b5⟩ := all u hu
    exact ⟨u', v, b1, b2, b3, b4, b5.trans eb⟩
/-! ===== the search, as it is meant ===== -/
def s2i (A : List Nat → Bool) (a : Nat) (o : Int32 × Int32 × Int32) : Nat → Nat → Int32 × Int32 × Int32
  | 0, _ => o
  | m + 1, b => if A [a, b] then (2, nI a, nI b) else s2i A a o m (b + 1)
def s2 (A : List Nat → Bool) : Nat → Nat → Int32 × Int32 × Int32
  | 0, _ => (-1, -1, -1)
  | m + 1, a => s2i A a (s2 A m (a + 1)) 10 0
def s1 (A : List Nat → Bool) : Nat → Nat → Int32 × Int32 × Int32
  | 0, _ => s2 A 10 0
  | m + 1, a => if A [a] then (1, nI a, -1) else s1 A m (a + 1)
def mres (A : List Nat → Bool) : Int32 × Int32 × Int32 := if A [] then (0, -1, -1) else s1 A 10 0
def rowIs (p : Nat → Int32) (o : Int32 × Int32 × Int32) : Prop := p 0 = o.1 ∧ p 1 = o.2.1 ∧ p 2 = o.2.2
theorem f_note (a : Nat → Int32) (x y z : Int32) : ∃ a', fX3_note 3 a x y z = some a' ∧ rowIs a' (x, y, z) := by
  refine ⟨upd (upd (upd a 0 x) 1 y) 2 z, rfl, ?_, ?_, ?_⟩
  · rw [upd_o (by decide), upd_o (by decide), upd_s]
  · rw [upd_o (by decide), upd_s]
  · rw [upd_s]
/-- what the class keeps of plans beside the row found -/
def plK (p p' : St) : Prop := p' 0 = p 0 ∧ p' 5 = p 5
theorem f_two_35 {h s rb : St} {pL : Lt} {fs : List Nat} {a : Nat} {x0 : Int32} (hk : Tok s) (hs : Sts h s) (efs : fs = wyT s (-1) (-1)) (ha : a < 10) (hP : RidP h s rb (allM (nlS s)) (fs ++ [a])) (rc : Int32 → Int32 → St → St → Option (St × St)) (p : St) : ∀ (m b N : Nat) (r : St), m + b = 10 → m < N → AgO rb r → (∃ r' p', fX3_findTwoMore_35 h pL rc N x0 (nI a) (rb 0 9) (nI b) r p = some (r', p') ∧ R0 r' ∧ plK p p' ∧ ∀ o, rowIs (p' 4) (s2i (aaB h s) a o m b)) ∨ ∃ r', fX3_findTwoMore_35 h pL rc N x0 (nI a) (rb 0 9) (nI b) r p = rc x0 (nI (a + 1)) r' p ∧ AgO rb r' ∧ ∀ o, s2i (aaB h s) a o m b = o
  | 0, b, N, r, e, hN, hA => by
    obtain ⟨N, rfl⟩ : ∃ M, N = M + 1 := ⟨N - 1, by omega⟩
    right
    refine ⟨r, ?_, hA, fun o => rfl⟩
    rw [fX3_findTwoMore_35, if_pos (by rw [show (10 : Int32) = nI 10 from rfl, nI_le' (by omega) (by omega)]; omega), stp_n, nI_1]
  | m + 1, b, N, r, e, hN, hA => by
    obtain ⟨N, rfl⟩ : ∃ M, N = M + 1 := ⟨N - 1, by omega⟩
    have h20 := nsS_20 hk
    have hl := wyT_len s (-1) (-1)
    have hl2 : fs.length ≤ 20 := by rw [efs]; omega
    obtain ⟨r3, c1, c2, c3, c4, c5⟩ := RidP_on (a := b) hk hs (by simp; omega) (by
      intro f hf
      rcases List.mem_append.mp hf with z | z
      · rw [efs] at z; exact wyT_lt hk _ _ f z
      · rw [List.mem_singleton] at z; omega) (by omega) hP hA
    have c2' : RidV h s r3 (allM (nlS s)) (wyT s (-1) (-1) ++ [a, b]) := by
      have := RidP_V (by simp; omega) c2
      rw [List.append_assoc, efs] at this
      exact this
    have aa := (aa_of (gs := [a, b]) hk hs (by simp) (fun f hf => by
      simp at hf
      omega) c2').1
    rw [fX3_findTwoMore_35, if_neg (by rw [show (10 : Int32) = nI 10 from rfl, nI_le' (by omega) (by omega)]; omega), stp_n, c1, bd1_s, aa, bd1_s]
    cases c : aaB h s [a, b]
    · rw [if_pos bF, stp_n, nI_1]
      rcases f_two_35 (pL := pL) hk hs efs ha hP rc p m (b + 1) N r3 (by omega) (by omega) c4 with ⟨r', p', g1, g2, g3, g4⟩ | ⟨r', g1, g2, g3⟩
      · refine Or.inl ⟨r', p', g1, g2, g3, fun o => ?_⟩
        rw [s2i, c]; exact g4 o
      · refine Or.inr ⟨r', g1, g2, fun o => ?_⟩
        rw [s2i, c]; exact g3 o
    · rw [if_neg bTn]
      obtain ⟨a', n1, n2⟩ := f_note (p 4) 2 (nI a) (nI b)
      rw [n1, bd1_s, stp_n]
      refine Or.inl ⟨_, _, rfl, c3, ⟨rfl, rfl⟩, fun o => ?_⟩
      rw [s2i, c, up_s]
      exact n2
theorem f_two_2 {h s rb : St} {pL : Lt} {fs : List Nat} (hk : Tok s) (hs : Sts h s) (efs : fs = wyT s (-1) (-1)) (hP : RidP h s rb (allM (nlS s)) fs) (p : St) (h0 : rowIs (p 4) (-1, -1, -1)) : ∀ (m a N : Nat) (r : St), m + a = 10 → m < N → AgO rb r → R0 r → ∃ r' p', fX3_findTwoMore_2 h pL N (rb 0 9) (nI a) r p = some (r', p') ∧ R0 r' ∧ plK p p' ∧ rowIs (p' 4) (s2 (aaB h s) m a)
  | 0, a, N, r, e, hN, hA, hr0 => by
    obtain ⟨N, rfl⟩ : ∃ M, N = M + 1 := ⟨N - 1, by omega⟩
    refine ⟨r, p, ?_, hr0, ⟨rfl, rfl⟩, h0⟩
    rw [fX3_findTwoMore_2, if_pos (by rw [show (10 : Int32) = nI 10 from rfl, nI_le' (by omega) (by omega)]; omega)]
  | m + 1, a, N, r, e, hN, hA, hr0 => by
    obtain ⟨N, rfl⟩ : ∃ M, N = M + 1 := ⟨N - 1, by omega⟩
    have h20 := nsS_20 hk
    have hl := wyT_len s (-1) (-1)
    have hl2 : fs.length ≤ 20 := by rw [efs]; omega
    obtain ⟨r3, c1, c2, c3, c4, c5⟩ := RidP_on (a := a) hk hs (by omega) (by rw [efs]; exact wyT_lt hk _ _) (by omega) hP hA
    rw [fX3_findTwoMore_2, if_neg (by rw [show (10 : Int32) = nI 10 from rfl, nI_le' (by omega) (by omega)]; omega), stp_n, c1, bd1_s, stp_n, s2]
    rcases f_two_35 (pL := pL) (x0 := rb 0 9) hk hs efs (show a < 10 by omega) c2 (fX3_findTwoMore_2 h pL N) p 10 0 300 r3 (by omega) (by omega) AgO.rf with ⟨r', p', g1, g2, g3, g4⟩ | ⟨r', g1, g2, g3⟩
    · exact ⟨r', p', g1, g2, g3, g4 _⟩
    · have hr' : R0 r' := by
        -- the first row stays
        have e9 := c2 [] 
        obtain ⟨t, ht⟩ := Rdy_ex (fs := (fs ++ [a]) ++ []) hk hs (allM (nlS s)) (by simp; omega) (by
          intro f hf2
          simp at hf2
          rcases hf2 with z | z
          · rw [efs] at z; exact wyT_lt hk _ _ f z
          · omega)
        obtain ⟨t', hf, j, w, fl, -, q2, -⟩ := e9 t ht
        have ho := g2.2.2 j q2.1.2.2.1.1 q2.2.2.2.2.1
        unfold R0
        rw [ho 2 0 (by decide) (by omega), ho 3 0 (by decide) (by omega), ho 4 0 (by decide) (by omega), ho 5 0 (by decide) (by omega), ho 6 0 (by decide) (by omega), ho 7 0 (by decide) (by omega), ho 9 0 (by decide) (by omega)]
        exact c3
      obtain ⟨r'', p'', k1, k2, k3, k4⟩ := f_two_2 (pL := pL) hk hs efs hP p h0 m (a + 1) N r' (by omega) (by omega) (c5 r' g2) hr'
      refine ⟨r'', p'', g1.trans k1, k2, k3, ?_⟩
      rw [g3]; exact k4
theorem f_one_77 {h s rb : St} {pL : Lt} {fs : List Nat} (hk : Tok s) (hs : Sts h s) (efs : fs = wyT s (-1) (-1)) (hP : RidP h s rb (allM (nlS s)) fs) (p : St) (h0 : rowIs (p 4) (-1, -1, -1)) : ∀ (m a N : Nat) (r : St), m + a = 10 → m < N → AgO rb r → R0 r → ∃ r' p', fX3_findMore_77 h pL N (rb 0 9) (nI a) r p = some (r', p') ∧ R0 r' ∧ plK p p' ∧ rowIs (p' 4) (s1 (aaB h s) m a)
  | 0, a, N, r, e, hN, hA, hr0 => by
    obtain ⟨N, rfl⟩ : ∃ M, N = M + 1 := ⟨N - 1, by omega⟩
    obtain ⟨r', p', g1, g2, g3, g4⟩ := f_two_2 (pL := pL) hk hs efs hP p h0 10 0 300 r (by omega) (by omega) hA hr0
    refine ⟨r', p', ?_, g2, g3, g4⟩
    have g1' : fX3_findTwoMore h r p pL (rb 0 9) = _ := g1
    rw [fX3_findMore_77, if_pos (by rw [show (10 : Int32) = nI 10 from rfl, nI_le' (by omega) (by omega)]; omega), g1', bd2_s]
  | m + 1, a, N, r, e, hN, hA, hr0 => by
    obtain ⟨N, rfl⟩ : ∃ M, N = M + 1 := ⟨N - 1, by omega⟩
    have h20 := nsS_20 hk
    have hl := wyT_len s (-1) (-1)
    have hl2 : fs.length ≤ 20 := by rw [efs]; omega
    obtain ⟨r3, c1, c2, c3, c4, c5⟩ := RidP_on (a := a) hk hs (by omega) (by rw [efs]; exact wyT_lt hk _ _) (by omega) hP hA
    have c2' : RidV h s r3 (allM (nlS s)) (wyT s (-1) (-1) ++ [a]) := by
      have := RidP_V (by simp; omega) c2
      rw [efs] at this
      exact this
    have aa := (aa_of (gs := [a]) hk hs (by simp) (fun f hf => by
      simp at hf
      omega) c2').1
    rw [fX3_findMore_77, if_neg (by rw [show (10 : Int32) = nI 10 from rfl, nI_le' (by omega) (by omega)]; omega), stp_n, c1, bd1_s, aa, bd1_s, s1]
    cases c : aaB h s [a]
    · rw [if_pos bF, stp_n, nI_1]
      exact f_one_77 (pL := pL) hk hs efs hP p h0 m (a + 1) N r3 (by omega) (by omega) c4 c3
    · rw [if_neg bTn]
      obtain ⟨a', n1, n2⟩ := f_note (p 4) 1 (nI a) (-1)
      rw [n1, bd1_s, stp_n]
      refine ⟨_, _, rfl, c3, ⟨rfl, rfl⟩, ?_⟩
      rw [up_s]
      exact n2
theorem f_findMore {h s r p : St} {pL : Lt} (hk : Tok s) (hs : Sts h s) (hH : HsT h s) (h0 : R0 r) (hp : p 0 2 = 0) : ∃ r' p', fX3_findMore h r p pL = some (r', p') ∧ R0 r' ∧ p' 0 = upd (p 0) 2 1 ∧ p' 5 = p 5 ∧ rowIs (p' 4) (mres (aaB h s)) := by
  have h20 := nsS_20 hk
  have hl := wyT_len s (-1) (-1)
  obtain ⟨r1, a1, a2⟩ := begin_all hk hs hH (allM (nlS s)) h0
  obtain ⟨rb, b1, b2, b3⟩ := RidP_of hk hs hH (by omega) (wyT_lt hk (-1) (-1)) a2
  have bV : RidV h s rb (allM (nlS s)) (wyT s (-1) (-1) ++ []) := by rw [List.append_nil]; exact RidP_V (by omega) b3
  have aa := (aa_of (gs := []) hk hs (by decide) (fun f hf => by cases hf) bV).1
  have ea : fX2_allLeavers h = some (allM (nlS s)) := by unfold fX2_allLeavers; rw [hH.1.2.1]; rfl
  obtain ⟨q, n1, n2⟩ := f_note (sS p 0 2 1 4) (-1) (-1) (-1)
  unfold fX3_findMore
  rw [if_pos hp, stp_n, n1, bd1_s, stp_n, ea, bd1_s, a1, bd1_s, f_stopsT hk hH, b1, bd1_s, aa, bd1_s]
  unfold mres
  cases c : aaB h s []
  · rw [if_pos bF, stp_n]
    obtain ⟨r', p', g1, g2, g3, g4⟩ := f_one_77 (pL := pL) hk hs rfl b3 (va_up (sS p 0 2 1) 4 q) (by rw [up_s]; exact n2) 10 0 300 rb (by omega) (by omega) AgO.rf b2
    exact ⟨r', p', g1, g2, g3.1, g3.2, g4⟩
  · rw [if_neg bTn]
    obtain ⟨q', m1, m2⟩ := f_note (va_up (sS p 0 2 1) 4 q 4) 0 (-1) (-1)
    rw [m1, bd1_s, stp_n]
    exact ⟨_, _, rfl, b2, rfl, rfl, m2⟩
