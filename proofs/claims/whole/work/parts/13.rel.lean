/-! ===== old rows stay ===== -/
theorem sS_old {t : St} {c k i : Nat} {v : Int32} {c' : Nat} (h : i ≠ k) : sS t c k v c' i = t c' i := by
  rw [sS_c]
  by_cases e : c' = c
  · subst e; rw [if_pos rfl, upd_o h]
  · rw [if_neg e]
theorem arR_old (r : St) (j : Nat) (s p : Int32) {c i : Nat} (h : i ≠ j + 1) (hc : c ≠ 0) : arR r j s p c i = r c i := by
  unfold arR
  rw [sS_o hc]
  rw [sS_old h, sS_old h, sS_old h, sS_old h, sS_old h, sS_old h, sS_old h, sS_old h]
theorem laR_old (r : St) (j : Nat) (q : Int32 × Int32) {c i : Nat} (h : i ≠ j) : laR r j q c i = r c i := by
  unfold laR va_up
  by_cases e : c = 4
  · subst e; rw [if_pos rfl, upd_o h]
  · rw [if_neg e]
    by_cases e2 : c = 6
    · subst e2; rw [if_pos rfl, upd_o h]
    · rw [if_neg e2]
theorem halfR_old (h r : St) (j : Nat) (s p wt : Int32) (nl : Nat) {c i : Nat} (hi : i ≠ j + 1) (hc : c ≠ 0) : halfR h r j s p wt nl c i = r c i := by
  unfold halfR
  rw [laR_old _ _ _ hi, arR_old _ _ _ _ hi hc]
theorem loR_old (r : St) (j : Nat) (a b v : Int32) {c i : Nat} (h : i ≠ j) : loR r j a b v c i = r c i := by
  unfold loR
  rw [sS_old h, sS_old h, sS_old h, sS_old h, sS_old h]
theorem liR_old (r : St) (j : Nat) (q : Int32 × Int32 × Int32) {c i : Nat} (h : i ≠ j) : liR r j q c i = r c i := by
  unfold liR
  rw [sS_old h, sS_old h, sS_old h]
theorem haltR_old (h r : St) (j : Nat) (s : Int32) (f nr : Nat) {c i : Nat} (hi : i ≠ j + 1) (hc : c ≠ 0) : haltR h r j s f nr c i = r c i := by
  unfold haltR haltR1
  rw [liR_old _ _ _ hi, loR_old _ _ _ _ _ hi, arR_old _ _ _ _ hi hc]
/-- the new row of a halt at HALF -/
theorem halfR_new (h r : St) (j : Nat) (s p wt : Int32) (nl : Nat) : halfR h r j s p wt nl 2 (j + 1) = s ∧ halfR h r j s p wt nl 3 (j + 1) = p ∧ halfR h r j s p wt nl 4 (j + 1) = (laS wt (h 0 1) (r 12) (r 6 j) (r 4 j) nl).2 ∧ halfR h r j s p wt nl 5 (j + 1) = r 5 j ∧ halfR h r j s p wt nl 6 (j + 1) = (laS wt (h 0 1) (r 12) (r 6 j) (r 4 j) nl).1 ∧ halfR h r j s p wt nl 7 (j + 1) = r 7 j ∧ halfR h r j s p wt nl 8 (j + 1) = r 8 j ∧ halfR h r j s p wt nl 9 (j + 1) = 0 ∧ halfR h r j s p wt nl 0 9 = nI (j + 2) ∧ halfR h r j s p wt nl 0 10 = r 0 10 ∧ halfR h r j s p wt nl 12 = r 12 := by
  obtain ⟨a2, a3, a4, a5, a6, a7, a8, a9, a0⟩ := arR_new r j s p
  unfold halfR laR
  refine ⟨a2, a3, ?_, a5, ?_, a7, a8, a9, a0, rfl, rfl⟩
  · rw [up_s, upd_s]
  · rw [up_o (by decide), up_s, upd_s]
/-- .. of a halt at a floor: behind those who get out -/
theorem haltR1_new (h r : St) (j : Nat) (s : Int32) (f : Nat) : haltR1 h r j s f 2 (j + 1) = s ∧ haltR1 h r j s f 3 (j + 1) = nI (2 * f) ∧ haltR1 h r j s f 4 (j + 1) = loS (outM h r j f) (goneM r j f) (h 7) (r 12) (r 4 j) 8 ∧ haltR1 h r j s f 5 (j + 1) = r 5 j &&& (outM h r j f ^^^ (-1)) ∧ haltR1 h r j s f 6 (j + 1) = r 6 j &&& (goneM r j f ^^^ (-1)) ∧ haltR1 h r j s f 7 (j + 1) = r 7 j ||| goneM r j f ∧ haltR1 h r j s f 8 (j + 1) = r 8 j ||| outM h r j f ∧ haltR1 h r j s f 9 (j + 1) = 0 ∧ haltR1 h r j s f 0 9 = nI (j + 2) ∧ haltR1 h r j s f 0 10 = r 0 10 ∧ haltR1 h r j s f 12 = r 12 := by
  obtain ⟨a2, a3, a4, a5, a6, a7, a8, a9, a0⟩ := arR_new r j s (nI (2 * f))
  unfold haltR1 loR
  refine ⟨a2, a3, ?_, ?_, ?_, ?_, ?_, a9, a0, rfl, rfl⟩
  · rw [sS_o (by decide), sS_o (by decide), sS_o (by decide), sS_o (by decide), sS_s, upd_s]
  · rw [sS_o (by decide), sS_o (by decide), sS_o (by decide), sS_s, upd_s, a5]
  · rw [sS_o (by decide), sS_s, upd_s, a6]
  · rw [sS_s, upd_s, a7]
  · rw [sS_o (by decide), sS_o (by decide), sS_s, upd_s, a8]
def wtF (h r : St) (j f : Nat) : Int32 := h 13 f &&& (((r 5 j &&& (outM h r j f ^^^ (-1))) ||| (r 8 j ||| outM h r j f)) ^^^ (-1))
def liF (h r : St) (j f nr : Nat) : Int32 × Int32 × Int32 := liS (wtF h r j f) (h 0 1) (h 7) (r 5 j &&& (outM h r j f ^^^ (-1))) (loS (outM h r j f) (goneM r j f) (h 7) (r 12) (r 4 j) 8) 0 nr
theorem haltR_new (h r : St) (j : Nat) (s : Int32) (f nr : Nat) : haltR h r j s f nr 2 (j + 1) = s ∧ haltR h r j s f nr 3 (j + 1) = nI (2 * f) ∧ haltR h r j s f nr 4 (j + 1) = (liF h r j f nr).2.1 ∧ haltR h r j s f nr 5 (j + 1) = (liF h r j f nr).1 ∧ haltR h r j s f nr 6 (j + 1) = r 6 j &&& (goneM r j f ^^^ (-1)) ∧ haltR h r j s f nr 7 (j + 1) = r 7 j ||| goneM r j f ∧ haltR h r j s f nr 8 (j + 1) = r 8 j ||| outM h r j f ∧ haltR h r j s f nr 9 (j + 1) = (liF h r j f nr).2.2 ∧ haltR h r j s f nr 0 9 = nI (j + 2) ∧ haltR h r j s f nr 0 10 = r 0 10 ∧ haltR h r j s f nr 12 = r 12 := by
  obtain ⟨a2, a3, a4, a5, a6, a7, a8, a9, a0, a10, a12⟩ := haltR1_new h r j s f
  unfold haltR
  rw [a4, a5, a8, a9]
  refine ⟨?_, ?_, ?_, ?_, ?_, ?_, ?_, ?_, ?_, ?_, ?_⟩
  · unfold liR; rw [sS_o (by decide), sS_o (by decide), sS_o (by decide), a2]
  · unfold liR; rw [sS_o (by decide), sS_o (by decide), sS_o (by decide), a3]
  · rw [liR_a4]; rfl
  · rw [liR_a5]; rfl
  · unfold liR; rw [sS_o (by decide), sS_o (by decide), sS_o (by decide), a6]
  · unfold liR; rw [sS_o (by decide), sS_o (by decide), sS_o (by decide), a7]
  · unfold liR; rw [sS_o (by decide), sS_o (by decide), sS_o (by decide), a8]
  · rw [liR_a9]; rfl
  · unfold liR; rw [sS_o (by decide), sS_o (by decide), sS_o (by decide), a0]
  · unfold liR; rw [sS_o (by decide), sS_o (by decide), sS_o (by decide), a10]
  · unfold liR; rw [sS_o (by decide), sS_o (by decide), sS_o (by decide), a12]
/-! ===== how class and reference agree on a ride ===== -/
def whn (r : St) (i : Nat) : Nat := ix (r 2 i)
def pN (r : St) (i : Nat) : Nat := ix (r 3 i)
def Hou (h t : St) (nr nl hf : Nat) : Prop :=
  (h 0 2 = nI nr ∧ t 0 2 = nI nr ∧ nr ≤ 8) ∧ (h 0 3 = nI nl ∧ t 0 6 = nI nl ∧ nl ≤ 8) ∧ (h 0 0 = nI hf ∧ t 0 11 = nI hf ∧ hf ≤ 8) ∧ h 0 1 = t 0 12 ∧ (∀ q, q < nr → h 7 q = t 4 q ∧ h 8 q = t 5 q ∧ h 9 q = t 6 q) ∧ (∀ l, l < nl → h 10 l = t 8 l) ∧ (∀ f k, f < 10 → k < 32 → bt (h 13 f) k = (decide (k < nr) && decide (t 5 k = nI f)) ∧ bt (h 14 f) k = (decide (k < nr) && decide (t 6 k = nI f))) ∧ ∀ k, k < 32 → bt (h 0 5) k = (decide (k < nr) && decide (t 5 k = t 6 k))
def Lea (r t : St) (nr nl : Nat) : Prop :=
  (∀ l, l < nl → ∃ w, w < 8 ∧ t 9 l = nI w) ∧ (∀ k, k < 32 → bt (r 0 10) k = (decide (k < nl) && (bt (t 0 15) k && decide (t 9 k < nI nr)))) ∧ ∀ l, l < nl → bt (r 0 10) l = true → r 12 l = ahM t l
def Rws (r : St) (j : Nat) : Prop := r 0 9 = nI (j + 1) ∧ (∀ i, i ≤ j → r 2 i = nI (whn r i) ∧ whn r i < 1000 ∧ r 3 i = nI (pN r i) ∧ pN r i < 20) ∧ whn r 0 = 0 ∧ ∀ i, i < j → whn r i < whn r (i + 1)
def Cur (r t : St) (j w nr nl : Nat) : Prop :=
  t 0 16 = nI w ∧ whn r j ≤ w ∧ t 0 18 = r 5 j ∧ t 0 19 = r 6 j ∧ (∀ k, k < 32 → bt (t 0 21) k = (bt (r 6 j) k || bt (r 7 j) k)) ∧ (∀ k, k < 32 → bt (t 0 20) k = (decide (k < nr) && ((bt (r 5 j) k || bt (r 8 j) k) && !decide (t 5 k = t 6 k)))) ∧ (∀ k, k < 32 → bt (r 5 j) k = true → k < nr ∧ ¬ t 5 k = t 6 k) ∧ (∀ k, k < 32 → bt (r 6 j) k = true → k < nl ∧ bt (r 0 10) k = true) ∧ (∀ k, k < 32 → bt (r 8 j) k = true → k < nr) ∧ (∀ k, k < nr → t 5 k = t 6 k → bt (r 8 j) k = true) ∧ r 4 j = ldM t ∧ stab t nr
def segm (r t : St) (i τ : Nat) : Prop := t 24 τ = r 4 i ∧ t 25 τ = r 5 i ∧ t 26 τ = r 6 i
/-- how far along the way from a to b behind g steps -/
def plf (a b g : Nat) : Nat := if g = 0 then a else if a < b then (if a % 2 = 0 then a + 2 * g else a + 2 * g - 1) else (if a % 2 = 0 then a - 2 * g else a + 1 - 2 * g)
def His (r t : St) (j w : Nat) (cp : Nat → Nat) : Prop := (∀ i τ, i < j → whn r i ≤ τ → τ < whn r (i + 1) → segm r t i τ ∧ t 23 τ = nI (plf (pN r i) (pN r (i + 1)) (τ - whn r i))) ∧ ∀ τ, whn r j ≤ τ → τ ≤ w → segm r t j τ ∧ t 23 τ = nI (cp (τ - whn r j))
def fst1 (p : Nat → Bool) (v : Nat → Int32) : Nat → Int32
  | 0 => -1
  | n + 1 => if fst1 p v n = -1 then (if p n then v n else -1) else fst1 p v n
def cnt1 (p : Nat → Bool) : Nat → Int32
  | 0 => 0
  | n + 1 => if p n then cnt1 p n + 1 else cnt1 p n
def lowS (x : Int32) : Nat → Int32
  | 0 => -1
  | n + 1 => if lowS x n = -1 then (if bt x n then nI n else -1) else lowS x n
def knR (r : St) (q : Nat) : Nat → Int32
  | 0 => 0
  | n + 1 => if bt (r 5 n) q then knR r q n ||| r 6 n else knR r q n
/-- what is told among those who ride -/
def tlS (rid ab : Int32) (hd : Nat → Int32) : Nat → Int32
  | 0 => ab
  | n + 1 => if bt rid n then tlS rid ab hd n ||| hd n else tlS rid ab hd n
def hdR (r : St) : Nat → Nat → Int32
  | 0, _ => 0
  | n + 1, q => if bt (r 5 n) q then hdR r n q ||| tlS (r 5 n) (r 6 n) (hdR r n) 8 else hdR r n q
def Ppl (r t : St) (j nr : Nat) : Prop := (∀ q, q < nr → t 27 q = fst1 (fun i => bt (r 5 i) q) (r 2) (j + 1) ∧ t 28 q = fst1 (fun i => bt (r 8 i) q) (r 2) (j + 1) ∧ t 29 q = cnt1 (fun i => bt (r 9 i) q) (j + 1) ∧ t 32 q = knR r q (j + 1) ∧ t 33 q = hdR r (j + 1) q) ∧ t 0 29 = fst1 (fun i => !decide (r 9 i = 0)) (r 2) (j + 1) ∧ t 0 30 = fst1 (fun i => !decide (r 9 i = 0)) (fun i => lowS (r 9 i) 8) (j + 1)
/-! ===== the way ===== -/
theorem ldM_e {t u : St} (e1 : u 0 18 = t 0 18) (e2 : u 0 19 = t 0 19) (e3 : u 4 = t 4) (e4 : u 9 = t 9) : ldM u = ldM t := by
  unfold ldM
  have : ahM u = ahM t := by funext k; unfold ahM; rw [e3, e4]
  rw [e1, e2, e3, this]
theorem trv_ld (t : St) (w : Nat) (p : Nat → Int32) (d : Nat) : ldM (trv t w p d) = ldM t :=
  ldM_e (trv_s _ _ _ (by decide) (by decide) d) (trv_s _ _ _ (by decide) (by decide) d) (trv_c _ _ _ (by decide) (by decide) (by decide) (by decide) (by decide) d) (trv_c _ _ _ (by decide) (by decide) (by decide) (by decide) (by decide) d)
theorem trv_a (t : St) (w : Nat) (p : Nat → Int32) (τ : Nat) : ∀ d, trv t w p d 24 τ = (if w < τ ∧ τ ≤ w + d then ldM t else t 24 τ) ∧ trv t w p d 25 τ = (if w < τ ∧ τ ≤ w + d then t 0 18 else t 25 τ) ∧ trv t w p d 26 τ = (if w < τ ∧ τ ≤ w + d then t 0 19 else t 26 τ) ∧ trv t w p d 23 τ = (if w < τ ∧ τ ≤ w + d then p (τ - w) else t 23 τ)
  | 0 => by
    have : ¬ (w < τ ∧ τ ≤ w + 0) := by omega
    rw [if_neg this, if_neg this, if_neg this, if_neg this]
    exact ⟨rfl, rfl, rfl, rfl⟩
  | d + 1 => by
    obtain ⟨h1, h2, h3, h4⟩ := trv_a t w p τ d
    have e24 : trv t w p (d + 1) 24 τ = upd (trv t w p d 24) (w + d + 1) (ldM (trv t w p d)) τ := rfl
    have e25 : trv t w p (d + 1) 25 τ = upd (trv t w p d 25) (w + d + 1) (trv t w p d 0 18) τ := rfl
    have e26 : trv t w p (d + 1) 26 τ = upd (trv t w p d 26) (w + d + 1) (trv t w p d 0 19) τ := rfl
    have e23 : trv t w p (d + 1) 23 τ = upd (trv t w p d 23) (w + d + 1) (p (d + 1)) τ := rfl
    rw [e24, e25, e26, e23, trv_ld, trv_s _ _ _ (by decide) (by decide), trv_s _ _ _ (by decide) (by decide)]
    by_cases c : τ = w + d + 1
    · subst c
      rw [upd_s, upd_s, upd_s, upd_s, if_pos ⟨by omega, by omega⟩, if_pos ⟨by omega, by omega⟩, if_pos ⟨by omega, by omega⟩, if_pos ⟨by omega, by omega⟩]
      refine ⟨rfl, rfl, rfl, ?_⟩
      congr 1
      omega
    · rw [upd_o c, upd_o c, upd_o c, upd_o c, h1, h2, h3, h4]
      by_cases c2 : w < τ ∧ τ ≤ w + d
      · have c3 : w < τ ∧ τ ≤ w + (d + 1) := by omega
        simp only [if_pos c2, if_pos c3, and_self]
      · have c3 : ¬ (w < τ ∧ τ ≤ w + (d + 1)) := by omega
        simp only [if_neg c2, if_neg c3, and_self]
theorem Cur_trv {r t : St} {j w nr nl : Nat} (h : Cur r t j w nr nl) (p : Nat → Int32) (d : Nat) : Cur r (trv t w p d) j (w + d) nr nl := by
  obtain ⟨h1, h2, h3, h4, h5, h6, h7, h8, h9, h10, h11, h12⟩ := h
  have s : ∀ i, i ≠ 16 → i ≠ 17 → trv t w p d 0 i = t 0 i := fun i a b => trv_s t w p a b d
  have c5 : trv t w p d 5 = t 5 := trv_c t w p (by decide) (by decide) (by decide) (by decide) (by decide) d
  have c6 : trv t w p d 6 = t 6 := trv_c t w p (by decide) (by decide) (by decide) (by decide) (by decide) d
  unfold Cur
  rw [s 18 (by decide) (by decide), s 19 (by decide) (by decide), s 21 (by decide) (by decide), s 20 (by decide) (by decide), c5, c6, trv_ld]
  exact ⟨trv_n t p h1 d, by omega, h3, h4, h5, h6, h7, h8, h9, h10, h11, trv_stab h12 w p d⟩
theorem His_trv {r t : St} {j w nr nl : Nat} {cp cp2 : Nat → Nat} (h : His r t j w cp) (hc : Cur r t j w nr nl) (hm : ∀ i, i < j → whn r (i + 1) ≤ whn r j) (p : Nat → Int32) (d : Nat) (e1 : ∀ g, g ≤ w - whn r j → cp2 g = cp g) (e2 : ∀ g, 1 ≤ g → g ≤ d → p g = nI (cp2 (w - whn r j + g))) : His r (trv t w p d) j (w + d) cp2 := by
  obtain ⟨h1, h2, h3, h4, -, -, -, -, -, -, h11, -⟩ := hc
  refine ⟨fun i τ hi a b => ?_, fun τ a b => ?_⟩
  · have hτ : ¬ (w < τ ∧ τ ≤ w + d) := by have := hm i hi; omega
    obtain ⟨t1, t2, t3, t4⟩ := trv_a t w p τ d
    rw [if_neg hτ] at t1 t2 t3 t4
    unfold segm
    rw [t1, t2, t3, t4]
    exact h.1 i τ hi a b
  · obtain ⟨t1, t2, t3, t4⟩ := trv_a t w p τ d
    unfold segm
    rw [t1, t2, t3, t4]
    by_cases c : τ ≤ w
    · have hτ : ¬ (w < τ ∧ τ ≤ w + d) := by omega
      rw [if_neg hτ, if_neg hτ, if_neg hτ, if_neg hτ, e1 _ (by omega)]
      exact h.2 τ a c
    · have hτ : (w < τ ∧ τ ≤ w + d) := by omega
      rw [if_pos hτ, if_pos hτ, if_pos hτ, if_pos hτ, e2 _ (by omega) (by omega), h11, h3, h4]
      refine ⟨⟨rfl, rfl, rfl⟩, ?_⟩
      congr 2
      omega
theorem Ppl_trv {r t : St} {j nr : Nat} (h : Ppl r t j nr) (w : Nat) (p : Nat → Int32) (d : Nat) : Ppl r (trv t w p d) j nr := by
  unfold Ppl
  rw [trv_c t w p (c := 27) (by decide) (by decide) (by decide) (by decide) (by decide) d, trv_c t w p (c := 28) (by decide) (by decide) (by decide) (by decide) (by decide) d, trv_c t w p (c := 29) (by decide) (by decide) (by decide) (by decide) (by decide) d, trv_c t w p (c := 32) (by decide) (by decide) (by decide) (by decide) (by decide) d, trv_c t w p (c := 33) (by decide) (by decide) (by decide) (by decide) (by decide) d, trv_s t w p (i := 29) (by decide) (by decide) d, trv_s t w p (i := 30) (by decide) (by decide) d]
  exact h
