/-! ===== a row more ===== -/
theorem Rws_add {r r' : St} {j w p : Nat} (h : Rws r j) (old : ∀ c i, i ≤ j → c ≠ 0 → r' c i = r c i) (h0 : r' 0 9 = nI (j + 2)) (h2 : r' 2 (j + 1) = nI w) (hw : whn r j < w) (hw2 : w < 1000) (h3 : r' 3 (j + 1) = nI p) (hp : p < 20) : Rws r' (j + 1) ∧ (∀ i, i ≤ j → whn r' i = whn r i) ∧ (∀ i, i ≤ j → pN r' i = pN r i) ∧ whn r' (j + 1) = w ∧ pN r' (j + 1) = p := by
  have ew : ∀ i, i ≤ j → whn r' i = whn r i := fun i hi => by unfold whn; rw [old 2 i hi (by decide)]
  have ep : ∀ i, i ≤ j → pN r' i = pN r i := fun i hi => by unfold pN; rw [old 3 i hi (by decide)]
  have ew1 : whn r' (j + 1) = w := by unfold whn; rw [h2, ix_nI (by omega)]
  have ep1 : pN r' (j + 1) = p := by unfold pN; rw [h3, ix_nI (by omega)]
  refine ⟨⟨h0, fun i hi => ?_, ?_, fun i hi => ?_⟩, ew, ep, ew1, ep1⟩
  · by_cases c : i ≤ j
    · rw [old 2 i c (by decide), old 3 i c (by decide), ew i c, ep i c]
      exact h.2.1 i c
    · have : i = j + 1 := by omega
      subst this
      rw [ew1, ep1]
      exact ⟨h2, hw2, h3, hp⟩
  · rw [ew 0 (by omega)]; exact h.2.2.1
  · by_cases c : i < j
    · rw [ew i (by omega), ew (i + 1) (by omega)]
      exact h.2.2.2 i c
    · have : i = j := by omega
      subst this
      rw [ew i (Nat.le_refl _), ew1]
      exact hw
theorem Rws_mono {r : St} {j : Nat} (h : Rws r j) : ∀ {i k : Nat}, i ≤ k → k ≤ j → whn r i ≤ whn r k := by
  intro i k hik
  induction k with
  | zero => intro _; rw [show i = 0 by omega]; exact Nat.le_refl _
  | succ k ih =>
    intro hk
    by_cases c : i = k + 1
    · subst c; exact Nat.le_refl _
    · have h1 := ih (by omega) (by omega)
      have h2 := h.2.2.2 k (by omega)
      omega
theorem His_add {r r' t t' : St} {j w p : Nat} {cp : Nat → Nat} (h : His r t j w cp) (hr : Rws r j) (hwj : whn r j ≤ w) (old : ∀ c i, i ≤ j → c ≠ 0 → r' c i = r c i) (h2 : r' 2 (j + 1) = nI (w + 1)) (hw2 : w + 1 < 1000) (h3 : r' 3 (j + 1) = nI p) (hp : p < 20) (hcp : ∀ g, g ≤ w - whn r j → cp g = plf (pN r j) p g) (ht : ∀ τ, τ ≤ w → t' 23 τ = t 23 τ ∧ t' 24 τ = t 24 τ ∧ t' 25 τ = t 25 τ ∧ t' 26 τ = t 26 τ) (hn : t' 24 (w + 1) = r' 4 (j + 1) ∧ t' 25 (w + 1) = r' 5 (j + 1) ∧ t' 26 (w + 1) = r' 6 (j + 1) ∧ t' 23 (w + 1) = nI p) : His r' t' (j + 1) (w + 1) (fun _ => p) := by
  have ew : ∀ i, i ≤ j → whn r' i = whn r i := fun i hi => by unfold whn; rw [old 2 i hi (by decide)]
  have ep : ∀ i, i ≤ j → pN r' i = pN r i := fun i hi => by unfold pN; rw [old 3 i hi (by decide)]
  have ew1 : whn r' (j + 1) = w + 1 := by unfold whn; rw [h2, ix_nI (by omega)]
  have ep1 : pN r' (j + 1) = p := by unfold pN; rw [h3, ix_nI (by omega)]
  refine ⟨fun i τ hi a b => ?_, fun τ a b => ?_⟩
  · have hτ : τ ≤ w := by
      by_cases c : i = j
      · subst c; rw [ew1] at b; omega
      · rw [ew (i + 1) (by omega)] at b
        have := Rws_mono hr (i := i + 1) (k := j) (by omega) (Nat.le_refl _)
        omega
    obtain ⟨t1, t2, t3, t4⟩ := ht τ hτ
    unfold segm
    rw [t1, t2, t3, t4, ew i (by omega), ep i (by omega), old 4 i (by omega) (by decide), old 5 i (by omega) (by decide), old 6 i (by omega) (by decide)]
    rw [ew i (by omega)] at a
    by_cases c : i = j
    · subst c
      rw [ep1]
      obtain ⟨g1, g2⟩ := h.2 τ a hτ
      rw [hcp _ (by omega)] at g2
      exact ⟨g1, g2⟩
    · rw [ep (i + 1) (by omega)]
      rw [ew (i + 1) (by omega)] at b
      exact h.1 i τ (by omega) a b
  · rw [ew1] at a
    have : τ = w + 1 := by omega
    subst this
    exact ⟨⟨hn.1, hn.2.1, hn.2.2.1⟩, hn.2.2.2⟩
theorem fst1_e {p p' : Nat → Bool} {v v' : Nat → Int32} : ∀ {n : Nat}, (∀ i, i < n → p i = p' i ∧ v i = v' i) → fst1 p v n = fst1 p' v' n
  | 0, _ => rfl
  | n + 1, h => by rw [fst1, fst1, fst1_e (n := n) (fun i hi => h i (by omega)), (h n (by omega)).1, (h n (by omega)).2]
theorem cnt1_e {p p' : Nat → Bool} : ∀ {n : Nat}, (∀ i, i < n → p i = p' i) → cnt1 p n = cnt1 p' n
  | 0, _ => rfl
  | n + 1, h => by rw [cnt1, cnt1, cnt1_e (n := n) (fun i hi => h i (by omega)), h n (by omega)]
theorem knR_e {r r' : St} {q : Nat} : ∀ {n : Nat}, (∀ i, i < n → r' 5 i = r 5 i ∧ r' 6 i = r 6 i) → knR r' q n = knR r q n
  | 0, _ => rfl
  | n + 1, h => by rw [knR, knR, knR_e (n := n) (fun i hi => h i (by omega)), (h n (by omega)).1, (h n (by omega)).2]
theorem hdR_e {r r' : St} : ∀ {n : Nat}, (∀ i, i < n → r' 5 i = r 5 i ∧ r' 6 i = r 6 i) → hdR r' n = hdR r n
  | 0, _ => by funext q; rw [hdR, hdR]
  | n + 1, h => by
    funext q
    rw [hdR, hdR, hdR_e (n := n) (fun i hi => h i (by omega)), (h n (by omega)).1, (h n (by omega)).2]
theorem tlS_e {rid ab : Int32} {f g : Nat → Int32} : ∀ {n : Nat}, (∀ i, i < n → bt rid i = true → f i = g i) → tlS rid ab f n = tlS rid ab g n
  | 0, _ => rfl
  | n + 1, h => by
    rw [tlS, tlS, tlS_e (n := n) (fun i hi => h i (by omega))]
    cases c : bt rid n
    · rfl
    · rw [h n (by omega) c]
theorem Ppl_add {r r' t t' : St} {j w nr : Nat} (h : Ppl r t j nr) (old : ∀ c i, i ≤ j → c ≠ 0 → r' c i = r c i) (h2 : r' 2 (j + 1) = nI w) (hrid : ∀ k, k < 8 → bt (r' 5 (j + 1)) k = true → k < nr)
    (hq : ∀ q, q < nr → t' 27 q = (if t 27 q = -1 then (if bt (r' 5 (j + 1)) q then nI w else -1) else t 27 q) ∧ t' 28 q = (if t 28 q = -1 then (if bt (r' 8 (j + 1)) q then nI w else -1) else t 28 q) ∧ t' 29 q = (if bt (r' 9 (j + 1)) q then t 29 q + 1 else t 29 q) ∧ t' 32 q = (if bt (r' 5 (j + 1)) q then t 32 q ||| r' 6 (j + 1) else t 32 q) ∧ t' 33 q = (if bt (r' 5 (j + 1)) q then t 33 q ||| tlS (r' 5 (j + 1)) (r' 6 (j + 1)) (t 33) 8 else t 33 q))
    (hf : t' 0 29 = if t 0 29 = -1 then (if r' 9 (j + 1) = 0 then -1 else nI w) else t 0 29) (hg : t' 0 30 = if t 0 30 = -1 then (if r' 9 (j + 1) = 0 then -1 else lowS (r' 9 (j + 1)) 8) else t 0 30) : Ppl r' t' (j + 1) nr := by
  have o : ∀ c i, i < j + 1 → c ≠ 0 → r' c i = r c i := fun c i hi hc => old c i (by omega) hc
  refine ⟨fun q hqn => ?_, ?_, ?_⟩
  · obtain ⟨a1, a2, a3, a4, a5⟩ := hq q hqn
    obtain ⟨b1, b2, b3, b4, b5⟩ := h.1 q hqn
    refine ⟨?_, ?_, ?_, ?_, ?_⟩
    · rw [a1, fst1, h2, fst1_e (p' := fun i => bt (r 5 i) q) (v' := r 2) (fun i hi => ⟨by rw [o 5 i hi (by decide)], o 2 i hi (by decide)⟩), ← b1]
    · rw [a2, fst1, h2, fst1_e (p' := fun i => bt (r 8 i) q) (v' := r 2) (fun i hi => ⟨by rw [o 8 i hi (by decide)], o 2 i hi (by decide)⟩), ← b2]
    · rw [a3, cnt1, cnt1_e (p' := fun i => bt (r 9 i) q) (fun i hi => by rw [o 9 i hi (by decide)]), ← b3]
    · rw [a4, knR, knR_e (r := r) (fun i hi => ⟨o 5 i hi (by decide), o 6 i hi (by decide)⟩), ← b4]
    · rw [a5, hdR, hdR_e (r := r) (fun i hi => ⟨o 5 i hi (by decide), o 6 i hi (by decide)⟩), ← b5]
      rw [tlS_e (g := hdR r (j + 1)) (fun i hi hb => (h.1 i (hrid i hi hb)).2.2.2.2)]
  · rw [hf, fst1, h2, fst1_e (p' := fun i => !decide (r 9 i = 0)) (v' := r 2) (fun i hi => ⟨by rw [o 9 i hi (by decide)], o 2 i hi (by decide)⟩), ← h.2.1]
    by_cases c : r' 9 (j + 1) = 0 <;> simp [c]
  · rw [hg, fst1, fst1_e (p' := fun i => !decide (r 9 i = 0)) (v' := fun i => lowS (r 9 i) 8) (fun i hi => ⟨by rw [o 9 i hi (by decide)], by rw [o 9 i hi (by decide)]⟩), ← h.2.2]
    by_cases c : r' 9 (j + 1) = 0 <;> simp [c]
/-- what notes tell of what is heard -/
theorem notes_heard (t : St) {nr q : Nat} (h8 : nr ≤ 8) (hk : ∀ q, q < nr → t 33 q ||| t 32 q = t 33 q) (hrid : ∀ k, k < 8 → bt (t 0 18) k = true → k < nr) (hq : q < nr) : hdN2 t nr q = if bt (t 0 18) q then t 33 q ||| tlS (t 0 18) (t 0 19) (t 33) 8 else t 33 q := by
  have tl : ∀ {k : Nat} (hk : k < 32) (n : Nat), bt (tlS (t 0 18) (t 0 19) (t 33) n) k = true ↔ bt (t 0 19) k = true ∨ ∃ p, p < n ∧ bt (t 0 18) p = true ∧ bt (t 33 p) k = true := by
    intro k hk n
    induction n with
    | zero => simp [tlS]
    | succ n ih =>
      rw [tlS]
      cases c : bt (t 0 18) n
      · simp only [Bool.false_eq_true, if_false]
        rw [ih]
        constructor
        · rintro (h | ⟨p, h1, h2⟩)
          · exact Or.inl h
          · exact Or.inr ⟨p, by omega, h2⟩
        · rintro (h | ⟨p, h1, h2, h3⟩)
          · exact Or.inl h
          · by_cases e : p = n
            · subst e; rw [c] at h2; cases h2
            · exact Or.inr ⟨p, by omega, h2, h3⟩
      · simp only [if_true]
        rw [bt_or, Bool.or_eq_true, ih]
        constructor
        · rintro ((h | ⟨p, h1, h2⟩) | h)
          · exact Or.inl h
          · exact Or.inr ⟨p, by omega, h2⟩
          · exact Or.inr ⟨n, by omega, c, h⟩
        · rintro (h | ⟨p, h1, h2, h3⟩)
          · exact Or.inl (Or.inl h)
          · by_cases e : p = n
            · subst e; exact Or.inr h3
            · exact Or.inl (Or.inr ⟨p, by omega, h2, h3⟩)
  have hdb : ∀ p, p < nr → ∀ k, k < 32 → bt (hdN t p) k = (bt (t 33 p) k || (bt (t 0 18) p && bt (t 0 19) k)) := by
    intro p hp k hk2
    unfold hdN knN
    have e := congrArg (fun x => bt x k) (hk p hp)
    simp only [bt_or] at e
    cases c : bt (t 0 18) p
    · simp only [Bool.false_eq_true, if_false, Bool.false_and, Bool.or_false]
      rw [bt_or]; exact e
    · simp only [if_true, Bool.true_and]
      rw [bt_or, bt_or, ← Bool.or_assoc, e]
  unfold hdN2
  cases c : bt (t 0 18) q
  · simp only [Bool.false_eq_true, if_false]
    apply bt_ext
    intro k hk2
    rw [hdb q hq k hk2, c]
    simp
  · simp only [if_true]
    apply bt_ext
    intro k hk2
    rw [bt_or, bt_or, hdb q hq k hk2, c]
    apply Bool.eq_iff_iff.mpr
    simp only [Bool.or_eq_true, Bool.true_and]
    rw [bt_alN t hk2 nr, tl hk2 8]
    constructor
    · rintro ((h | h) | ⟨p, h1, h2, h3⟩)
      · exact Or.inl h
      · exact Or.inr (Or.inl h)
      · rw [hdb p h1 k hk2, h2] at h3
        simp at h3
        rcases h3 with h3 | h3
        · exact Or.inr (Or.inr ⟨p, by omega, h2, h3⟩)
        · exact Or.inr (Or.inl h3)
    · rintro (h | h | ⟨p, h1, h2, h3⟩)
      · exact Or.inl (Or.inl h)
      · exact Or.inl (Or.inr h)
      · refine Or.inr ⟨p, hrid p h1 h2, h2, ?_⟩
        rw [hdb p (hrid p h1 h2) k hk2, h3]
        simp
