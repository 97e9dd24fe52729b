/-! ===== class and reference between calls ===== -/
def Dtx (s u : St) : Prop := u 1 = s 1 ∧ u 2 = s 2 ∧ u 0 11 = s 0 11 ∧ u 0 12 = s 0 12
theorem Dtx.rf {s : St} : Dtx s s := ⟨rfl, rfl, rfl, rfl⟩
theorem Dtx.sy {s u : St} (a : Dtx s u) : Dtx u s := ⟨a.1.symm, a.2.1.symm, a.2.2.1.symm, a.2.2.2.symm⟩
theorem Dtx.tr {s u v : St} (a : Dtx s u) (b : Dtx u v) : Dtx s v := ⟨b.1.trans a.1, b.2.1.trans a.2.1, b.2.2.1.trans a.2.2.1, b.2.2.2.trans a.2.2.2⟩
theorem Dur.tx {s u : St} (a : Dur s u) : Dtx s u := ⟨a.1.1, a.1.2.1, a.2.2.1, a.2.2.2.1⟩
theorem Tok_x {s u : St} (D : Dtx s u) (h : Tok s) : Tok u := by
  unfold Tok Rx
  rw [tn_e D.1, tb_e D.2.1, D.1, D.2.1]
  exact h
theorem S_x {s u : St} (D : Dtx s u) : nrS u = nrS s ∧ nlS u = nlS s ∧ nsS u = nsS s ∧ hvS u = hvS s ∧ frS u = frS s ∧ toS u = toS s ∧ laT u = laT s ∧ lwT u = lwT s ∧ stS u = stS s := by
  have e1 := tn_e D.1
  have e2 := tb_e D.2.1
  refine ⟨?_, ?_, ?_, ?_, ?_, ?_, ?_, ?_, ?_⟩
  · unfold nrS; rw [e1, e2]
  · unfold nlS; rw [e1, e2]
  · unfold nsS; rw [e1, e2]
  · funext k; unfold hvS; rw [e2]
  · funext k; unfold frS; rw [e2]
  · funext k; unfold toS; rw [e2]
  · funext k; unfold laT; rw [e2]
  · funext k; unfold lwT; rw [e2]
  · funext k; unfold stS; rw [e2]
theorem Rdd_x {t s u : St} (D : Dtx s u) : Rdd t u = Rdd t s := by
  obtain ⟨e1, e2, e3, e4, e5, e6, e7, e8, e9⟩ := S_x D
  unfold Rdd
  rw [e1, e2, e3, e4, e5, e6, e7, e8, e9]
theorem HsT_x {h s u : St} (D : Dtx s u) : HsT h u = HsT h s := by
  obtain ⟨e1, e2, e3, e4, e5, e6, e7, e8, e9⟩ := S_x D
  unfold HsT
  rw [e1, e2, e3, e4, e5, e6, e7, e8, e9]
theorem Tld_x {t s u : St} (D : Dtx s u) : Tld t u = Tld t s := by
  obtain ⟨e1, e2, e3, e4, e5, e6, e7, e8, e9⟩ := S_x D
  unfold Tld
  rw [Rdd_x D, e3, e9]
theorem wyT_x {s u : St} (D : Dtx s u) : wyT u = wyT s := by
  obtain ⟨e1, e2, e3, e4, e5, e6, e7, e8, e9⟩ := S_x D
  funext a b
  unfold wyT
  rw [e3, e9]
def allM (n : Nat) : Int32 := ((1 : Int32) <<< (nI n &&& 31)) - 1
theorem allM_f : ∀ n : Fin 9, ∀ k : Fin 32, bt (allM n.val) k.val = decide (k.val < n.val) := by decide +kernel
theorem bt_allM {n k : Nat} (hn : n ≤ 8) (hk : k < 32) : bt (allM n) k = decide (k < n) := allM_f ⟨n, by omega⟩ ⟨k, hk⟩
/-- the reference stands ready to run the way fs, by leavers S -/
def Rdy (h s t : St) (S : Int32) (fs : List Nat) : Prop := Rdd t s ∧ Sts h t ∧ (∀ k, k < nlS s → bt S k = bt (t 0 15) k) ∧ Way t fs
theorem Rdy_x {h s u t : St} {S : Int32} {fs : List Nat} (D : Dtx s u) : Rdy h u t S fs = Rdy h s t S fs := by
  unfold Rdy
  rw [Rdd_x D, (S_x D).2.1]
theorem Rdy_hou {h s t : St} {S : Int32} {fs : List Nat} (hk : Tok s) (hH : HsT h s) (hR : Rdy h s t S fs) : ∃ hf, Hou h t (nrS s) (nlS s) hf ∧ Lvs h t S (nlS s) := by
  obtain ⟨r1, ⟨hf, h1, h2, h3, h4⟩, r3, r4⟩ := hR
  refine ⟨hf, Hou_of hk hH r1 h1 h2 h3 h4, fun l hl => ⟨lwT s l, lwT_8 hk hl, (r1.2.2.2.2.1 l hl).2⟩, fun l hl => ?_, r3⟩
  rw [(hH.2.2.1 l hl).2, (r1.2.2.2.2.1 l hl).2]
/-- a ride that has begun by leavers S, whatever the reference's state -/
def BegS (h s r1 : St) (S : Int32) (fs : List Nat) : Prop := ∀ t, Rdy h s t S fs → Beg h r1 t (nrS s) (nlS s)
theorem run_of {h s r1 t : St} {S : Int32} {fs : List Nat} (hk : Tok s) (hH : HsT h s) (hB : BegS h s r1 S fs) (hR : Rdy h s t S fs) : ∃ r t' hf j w fl, goL h fs r1 = some r ∧ fX9_runs t = some t' ∧ Rid h r t' (nrS s) (nlS s) hf j w fl ∧ Frm t t' := by
  obtain ⟨hf, a, b⟩ := Rdy_hou hk hH hR
  obtain ⟨r, t', j, w, fl, c1, c2, c3, c4, c5, c6⟩ := RR_all a (hB t hR) hR.2.2.2
  exact ⟨r, t', hf, j, w, fl, c1, c2, c3, c6⟩
/-- there is a state of the reference that stands ready -/
theorem Rdy_ex {h s : St} (hk : Tok s) (hs : Sts h s) (S : Int32) {fs : List Nat} (h22 : fs.length ≤ 22) (hf : ∀ f, f ∈ fs → f < 10) : ∃ t, Rdy h s t S fs := by
  obtain ⟨u, F, R, -⟩ := f_reads hk
  obtain ⟨hf0, h1, h2, h3, h4⟩ := hs
  refine ⟨sS (sS (va_up u 15 (fun i => nI (fs.getD i 0))) 0 13 (nI fs.length)) 0 15 S, ?_, ⟨hf0, h1, h2, ?_, ?_⟩, fun k hk => ?_, ?_, fun i hi => ?_, h22, hf⟩
  · exact R
  · show u 0 11 = _
    rw [F.2 11 (by decide) (by decide) (by decide)]; exact h3
  · show h 0 1 = u 0 12
    rw [F.2 12 (by decide) (by decide) (by decide)]; exact h4
  · rfl
  · rfl
  · rfl
theorem begin_of {h s r0 : St} (hk : Tok s) (hs : Sts h s) (hH : HsT h s) (S : Int32) {fs : List Nat} (h22 : fs.length ≤ 22) (hf : ∀ f, f ∈ fs → f < 10) (h0 : R0 r0) : ∃ r1, fX4_begin h r0 S = some r1 ∧ BegS h s r1 S fs := by
  obtain ⟨t, ht⟩ := Rdy_ex hk hs S h22 hf
  obtain ⟨hf1, a, b⟩ := Rdy_hou hk hH ht
  obtain ⟨r1, c, d⟩ := Beg_begin a b h0
  refine ⟨r1, c, fun t2 ht2 => ?_⟩
  obtain ⟨hf2, a2, b2⟩ := Rdy_hou hk hH ht2
  obtain ⟨r2, c2, d2⟩ := Beg_begin a2 b2 h0
  rw [c] at c2
  cases c2
  exact d2
/-- r is the ride by leavers S over the way fs -/
def RidV (h s r : St) (S : Int32) (fs : List Nat) : Prop := ∀ t, Rdy h s t S fs → ∃ t' hf j w fl, fX9_runs t = some t' ∧ Rid h r t' (nrS s) (nlS s) hf j w fl ∧ Frm t t'
theorem RidV_x {h s u r : St} {S : Int32} {fs : List Nat} (D : Dtx s u) : RidV h u r S fs = RidV h s r S fs := by
  unfold RidV
  obtain ⟨e1, e2, -⟩ := S_x D
  rw [e1, e2]
  apply propext
  constructor
  · intro H t ht; exact H t (by rw [Rdy_x D]; exact ht)
  · intro H t ht; exact H t (by rw [Rdy_x D] at ht; exact ht)
/-- a ride of the class from its beginning: it is made, and stands for the reference's -/
theorem ride_of {h s r1 : St} {S : Int32} {fs : List Nat} (hk : Tok s) (hs : Sts h s) (hH : HsT h s) (h22 : fs.length ≤ 22) (hf : ∀ f, f ∈ fs → f < 10) (hB : BegS h s r1 S fs) : ∃ r, goL h fs r1 = some r ∧ R0 r ∧ RidV h s r S fs := by
  obtain ⟨t, ht⟩ := Rdy_ex hk hs S h22 hf
  obtain ⟨r, t', hf1, j, w, fl, c1, c2, c3, c4⟩ := run_of hk hH hB ht
  refine ⟨r, c1, c3.2.2.2.2.2.2.1, fun t2 ht2 => ?_⟩
  obtain ⟨r2, t2', hf2, j2, w2, fl2, d1, d2, d3, d4⟩ := run_of hk hH hB ht2
  rw [c1] at d1
  cases d1
  exact ⟨t2', hf2, j2, w2, fl2, d2, d3, d4⟩
theorem ride_told {h s r0 : St} (hk : Tok s) (hs : Sts h s) (hH : HsT h s) (S a b : Int32) (h0 : R0 r0) : ∃ r1 r, fX4_begin h r0 S = some r1 ∧ fX4_goToStops h r1 a b = some r ∧ R0 r ∧ RidV h s r S (wyT s a b) := by
  have h20 := nsS_20 hk
  have hl := wyT_len s a b
  obtain ⟨r1, c1, c2⟩ := begin_of hk hs hH S (fs := wyT s a b) (by omega) (wyT_lt hk a b) h0
  obtain ⟨r, d1, d2, d3⟩ := ride_of hk hs hH (by omega) (wyT_lt hk a b) c2
  exact ⟨r1, r, c1, by rw [f_stopsT hk hH]; exact d1, d2, d3⟩
/-! what is kept of plans and chances -/
def MoreV (s : St) (row : Nat → Int32) : Prop := ∀ t, Dtx s t → ∃ t', fX9_moreBy t = some (row 0, t') ∧ Dur t t' ∧ fX9_ofRow t' (row 0) 0 = some (row 1) ∧ fX9_ofRow t' (row 0) 1 = some (row 2)
def HeardV (h s : St) (a b : Int32) (v : Int64) : Prop := ∀ t, Rdy h s t (allM (nlS s)) (wyT s a b) → ∃ t', fX9_runs t = some t' ∧ Frm t t' ∧ ∀ q, q < nrS s → by8 v q = t' 33 q
def ArrV (h s : St) (S : Int32) (v : Int64) : Prop := ∀ t, Rdy h s t S (wyT s (-1) (-1)) → ∃ t', fX9_runs t = some t' ∧ Frm t t' ∧ ∀ q, q < nrS s → by8 v q = (if t' 28 q = -1 then 255 else t' 28 q) ∧ (t' 28 q = -1 ∨ ∃ n, n ≤ 242 ∧ t' 28 q = nI n)
/-- the ways to leave stops out, in their order: the w-th leaves out (a, b) -/
def sg : Nat → Nat → List (Int32 × Int32)
  | 0, _ => []
  | m + 1, i => (nI i, (-1)) :: sg m (i + 1)
def pr2 (i : Nat) : Nat → Nat → List (Int32 × Int32)
  | 0, _ => []
  | m + 1, j => (nI i, nI j) :: pr2 i m (j + 1)
def pr (n : Nat) : Nat → Nat → List (Int32 × Int32)
  | 0, _ => []
  | m + 1, i => pr2 i (n - (i + 1)) (i + 1) ++ pr n m (i + 1)
def wys (n : Nat) : List (Int32 × Int32) := ((-1), (-1)) :: (sg n 0 ++ pr n n 0)
def OutC (h s p : St) (pL : Lt) : Prop := ∃ n, n ≤ 211 ∧ p 0 6 = nI n ∧ ∀ w, w < n → ∀ a b, (wys (nsS s))[w]? = some (a, b) → HeardV h s a b (pL 6 w)
def ChC (h s c : St) (cL : Lt) : Prop := c 0 2 = 0 ∨ c 0 2 = 1 ∧ ∀ m, m < 2 ^ nlS s → ArrV h s (nI m) (cL 4 m)
def Fsh (z : Nat → St) (y : Nat → Lt) (s : St) : Prop := HsT (z 8) s ∧ RidV (z 8) s (z 9) (allM (nlS s)) (wyT s (-1) (-1)) ∧ (z 11 0 2 = 0 ∨ z 11 0 2 = 1 ∧ MoreV s (z 11 4)) ∧ OutC (z 8) s (z 11) (y 11) ∧ ChC (z 8) s (z 12) (y 12)
theorem HeardV_x {h s u : St} {a b : Int32} {v : Int64} (D : Dtx s u) : HeardV h u a b v = HeardV h s a b v := by
  unfold HeardV
  obtain ⟨e1, e2, -⟩ := S_x D
  rw [e1, e2, wyT_x D]
  apply propext
  constructor
  · intro H t ht; exact H t (by rw [Rdy_x D]; exact ht)
  · intro H t ht; exact H t (by rw [Rdy_x D] at ht; exact ht)
theorem ArrV_x {h s u : St} {S : Int32} {v : Int64} (D : Dtx s u) : ArrV h u S v = ArrV h s S v := by
  unfold ArrV
  obtain ⟨e1, e2, -⟩ := S_x D
  rw [e1, wyT_x D]
  apply propext
  constructor
  · intro H t ht; exact H t (by rw [Rdy_x D]; exact ht)
  · intro H t ht; exact H t (by rw [Rdy_x D] at ht; exact ht)
theorem Fsh_x {z : Nat → St} {y : Nat → Lt} {s u : St} (D : Dtx s u) (H : Fsh z y s) : Fsh z y u := by
  obtain ⟨h1, h2, h3, h4, h5⟩ := H
  obtain ⟨e1, e2, e3, -⟩ := S_x D
  refine ⟨by rw [HsT_x D]; exact h1, by rw [RidV_x D, e2, wyT_x D]; exact h2, ?_, ?_, ?_⟩
  · rcases h3 with h3 | ⟨h3, h6⟩
    · exact Or.inl h3
    · exact Or.inr ⟨h3, fun t ht => h6 t (D.tr ht)⟩
  · obtain ⟨n, a1, a2, a3⟩ := h4
    refine ⟨n, a1, a2, fun w hw a b hab => ?_⟩
    rw [e3] at hab
    rw [HeardV_x D]
    exact a3 w hw a b hab
  · rcases h5 with h5 | ⟨h5, h6⟩
    · exact Or.inl h5
    · refine Or.inr ⟨h5, fun m hm => ?_⟩
      rw [e2] at hm
      rw [ArrV_x D]
      exact h6 m hm
def Sgt (v s : St) : Prop := ∃ n, n ≤ 8 ∧ v 0 0 = nI n ∧ s 0 34 = nI n ∧ ∀ k, k < n → v 2 k = s 36 k ∧ v 3 k = s 37 k ∧ ∃ T, T ≤ 255 ∧ s 36 k = nI T
def Sh1 (e s : St) (o : Nat) : Prop := ((s 39 o = 1 ∧ e 0 0 = 0) ∨ (s 39 o = 0 ∧ e 0 0 = 1)) ∧ e 0 1 = s 40 o ∧ (∃ n, n ≤ 60 ∧ s 41 o = nI n ∧ e 0 2 = nI n) ∧ ∀ k, k < 60 → e 4 k = s 42 (60 * o + k)
def Shs (z : Nat → St) (s : St) : Prop := ∀ o, o < 4 → Sh1 (z (4 + o)) s o
def Rel (z : Nat → St) (y : Nat → Lt) (s : St) : Prop := TxR z s ∧ Sts (z 8) s ∧ Sgt (z 13) s ∧ Shs z s ∧ z 0 0 9 = s 0 43 ∧ R0 (z 9) ∧ R0 (z 10) ∧ (z 0 0 10 = 1 ∨ z 0 0 10 = 0 ∧ Fsh z y s)
theorem Rel_d {z : Nat → St} {y : Nat → Lt} {s u : St} (D : Dur s u) (H : Rel z y s) : Rel z y u := by
  obtain ⟨h1, h2, h3, h4, h5, h6, h7, h8⟩ := H
  obtain ⟨⟨d1, d2, d3, d4⟩, ⟨d5, d6, d7, d8⟩, d9, d10, d11, d12⟩ := id D
  refine ⟨⟨Tok_x D.tx h1.1, fun κ hκ => ?_⟩, ?_, ?_, fun o ho => ?_, by rw [d12]; exact h5, h6, h7, ?_⟩
  · rw [tn_e d1, tb_e d2]; exact h1.2 κ hκ
  · unfold Sts; rw [d9, d10]; exact h2
  · unfold Sgt; rw [d3, d4, d11]; exact h3
  · unfold Sh1; rw [d5, d6, d7, d8]; exact h4 o ho
  · rcases h8 with h8 | ⟨h8, h9⟩
    · exact Or.inl h8
    · exact Or.inr ⟨h8, Fsh_x D.tx h9⟩
