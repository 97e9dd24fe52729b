/-! ===== weigh: what the class notes ===== -/
theorem seg_row {h r t : St} {nr nl hf j w fl k T : Nat} (H : Rid h r t nr nl hf j w fl) (h1 : k ≤ j) (h3 : whn r k ≤ T) (h4 : k = j ∨ T < whn r (k + 1)) : r 4 k = t 24 (stp1 T w) := by
  have hw := H.2.1
  obtain ⟨⟨hH, hL, hR, hC, hI, hP, hV⟩, -⟩ := H
  unfold stp1
  by_cases c : k = j
  · subst c
    rw [if_pos (by omega)]
    exact (hI.2 w (by omega) (Nat.le_refl _)).1.1.symm
  · have h5 : T < whn r (k + 1) := by
      rcases h4 with z | z
      · exact absurd z c
      · exact z
    have h6 : whn r (k + 1) ≤ whn r j := Rws_mono hR (by omega) (Nat.le_refl _)
    rw [if_neg (by omega)]
    exact (hI.1 k T (by omega) h3 h5).1.1.symm
theorem f_noteWeights_15 {h r t v : St} {nr nl hf j w fl x : Nat} (H : Rid h r t nr nl hf j w fl) (hx : x < 8) : ∀ (m τ N row : Nat) (G : St), m + τ = 100 → m < N → row ≤ j → whn r row ≤ τ → (row = j ∨ τ ≤ whn r (row + 1)) → ∃ G', fX1_noteWeights_15 h r v N (nI x) (nI row) (nI τ) G = some G' ∧ (∀ c, c ≠ 4 → G' c = G c) ∧ ∀ i, G' 4 i = if x * 100 + τ ≤ i ∧ i < x * 100 + 100 then t 24 (stp1 (i - x * 100) w) else G 4 i
  | 0, τ, N, row, G, e, hN, h1, h2, h3 => by
    obtain ⟨N, rfl⟩ : ∃ M, N = M + 1 := ⟨N - 1, by omega⟩
    refine ⟨G, ?_, fun _ _ => rfl, fun i => by rw [if_neg (by omega)]⟩
    rw [fX1_noteWeights_15, if_pos (by rw [show (100 : Int32) = nI 100 from rfl, nI_le' (by omega) (by omega)]; omega)]
  | m + 1, τ, N, row, G, e, hN, h1, h2, h3 => by
    obtain ⟨N, rfl⟩ : ∃ M, N = M + 1 := ⟨N - 1, by omega⟩
    have hj := H.2.2.2.2.1
    have hR := H.1.2.2.1
    -- the rest, once the row is known
    have rest : ∀ k, k ≤ j → whn r k ≤ τ → (k = j ∨ τ < whn r (k + 1)) → ∃ G', chk (nI k) 45 (stp (r 4 (ix (nI k))) (fun v5 => chk ((nI x * 100) + nI τ) 800 (stp (sS G 4 (ix ((nI x * 100) + nI τ)) v5) (fun g8 => stp (nI τ + 1) (fun w9 => fX1_noteWeights_15 h r v N (nI x) (nI k) w9 g8))))) = some G' ∧ (∀ c, c ≠ 4 → G' c = G c) ∧ ∀ i, G' 4 i = if x * 100 + τ ≤ i ∧ i < x * 100 + 100 then t 24 (stp1 (i - x * 100) w) else G 4 i := by
      intro k k1 k2 k3
      obtain ⟨G', a1, a2, a3⟩ := f_noteWeights_15 H hx m (τ + 1) N k (sS G 4 (x * 100 + τ) (r 4 k)) (by omega) (by omega) k1 (by omega) (by omega)
      refine ⟨G', ?_, fun c hc => by rw [a2 c hc, sS_o hc], fun i => ?_⟩
      · rw [rd_nI rfl (show k < 45 by omega) (by decide), show (100 : Int32) = nI 100 from rfl, nI_mul, nI_add, wr_nI rfl (show x * 100 + τ < 800 by omega) (by decide), stp_n, nI_1]
        exact a1
      · rw [a3 i, sS_s]
        by_cases d : i = x * 100 + τ
        · rw [d, if_neg (by omega), if_pos (by omega), upd_s, seg_row H k1 k2 k3]
          congr 2; omega
        · rw [upd_o d]
          have : (x * 100 + (τ + 1) ≤ i ∧ i < x * 100 + 100) = (x * 100 + τ ≤ i ∧ i < x * 100 + 100) := by apply propext; omega
          simp only [this]
    rw [fX1_noteWeights_15, if_neg (by rw [show (100 : Int32) = nI 100 from rfl, nI_le' (by omega) (by omega)]; omega), hR.1, nI_1]
    by_cases c : row = j
    · rw [if_pos (by rw [nI_le' (by omega) (by omega)]; omega)]
      exact rest row h1 h2 (Or.inl c)
    · rw [if_neg (by rw [nI_le' (by omega) (by omega)]; omega), rd_nI rfl (show row + 1 < 45 by omega) (by decide), (hR.2.1 (row + 1) (by omega)).1]
      have hb := (hR.2.1 (row + 1) (by omega)).2.1
      have h4 : τ ≤ whn r (row + 1) := h3.resolve_left c
      by_cases d : τ < whn r (row + 1)
      · rw [if_pos (by rw [nI_lt' (by omega) (by omega)]; exact d)]
        exact rest row h1 h2 (Or.inr d)
      · rw [if_neg (by rw [nI_lt' (by omega) (by omega)]; exact d), stp_n]
        refine rest (row + 1) (by omega) (by omega) ?_
        by_cases f : row + 1 = j
        · exact Or.inl f
        · right
          have := hR.2.2.2 (row + 1) (by omega)
          omega
/-- how heavy all are without a leaver, step by step, whatever the reference's state -/
def WtV (h s : St) (l : Nat) (f : Nat → Int32) : Prop := ∀ u, Rdy h s u (mkC (nlS s) l) (wyT s (-1) (-1)) → ∃ t', fX9_runs u = some t' ∧ Frm u t' ∧ ∀ τ, τ < 100 → fX9_loadBehind t' (nI τ) = some (f τ)
theorem WtV_e {h s : St} {l : Nat} {f g : Nat → Int32} (H : WtV h s l f) (e : ∀ τ, τ < 100 → g τ = f τ) : WtV h s l g := fun u hu => by
  obtain ⟨t', a, b, c⟩ := H u hu
  exact ⟨t', a, b, fun τ hτ => by rw [c τ hτ, e τ hτ]⟩
theorem f_noteWeights {h s r v G : St} {l x : Nat} (hk : Tok s) (hs : Sts h s) (hx : x < 8) (hR : RidV h s r (mkC (nlS s) l) (wyT s (-1) (-1))) : ∃ G', fX1_noteWeights h r v G (nI x) = some G' ∧ (∀ i, ¬ (x * 100 ≤ i ∧ i < x * 100 + 100) → G' 4 i = G 4 i) ∧ WtV h s l (fun τ => G' 4 (x * 100 + τ)) := by
  have h20 := nsS_20 hk
  have hl := wyT_len s (-1) (-1)
  have key : ∀ u, Rdy h s u (mkC (nlS s) l) (wyT s (-1) (-1)) → ∃ G' t' w, fX1_noteWeights h r v G (nI x) = some G' ∧ fX9_runs u = some t' ∧ Frm u t' ∧ t' 0 16 = nI w ∧ w ≤ 242 ∧ ∀ i, G' 4 i = if x * 100 ≤ i ∧ i < x * 100 + 100 then t' 24 (stp1 (i - x * 100) w) else G 4 i := by
    intro u hu
    obtain ⟨t', hf, j, w, fl, a1, a2, a3⟩ := hR u hu
    obtain ⟨g1, g2, g3⟩ := Rid_16 a2
    have w0 := a2.1.2.2.1.2.2.1
    obtain ⟨G', b1, b2, b3⟩ := f_noteWeights_15 (v := v) a2 hx 100 0 300 0 G (by omega) (by omega) (by omega) (by omega) (by omega)
    refine ⟨G', t', w, ?_, a1, a3, g1, g2, b3⟩
    unfold fX1_noteWeights
    rw [if_neg (nI_pos (by omega)), if_pos (show nI x < 8 from nI_lt (b := 8) hx (by decide))]
    exact b1
  obtain ⟨u0, r0, -⟩ := Rdy_exD hk hs (mkC (nlS s) l) (fs := wyT s (-1) (-1)) (by omega) (wyT_lt hk _ _)
  obtain ⟨G', t0, w0, c1, -, -, -, -, c6⟩ := key u0 r0
  refine ⟨G', c1, fun i hi => by rw [c6 i, if_neg hi], fun u hu => ?_⟩
  obtain ⟨G2, t', w, d1, d2, d3, d4, d5, d6⟩ := key u hu
  rw [c1] at d1
  cases d1
  refine ⟨t', d2, d3, fun τ hτ => ?_⟩
  rw [f_loadBehind d4 d5 (by omega)]
  show some (t' 24 (stp1 τ w)) = some (G' 4 (x * 100 + τ))
  rw [d6, if_pos (by omega)]
  congr 3; omega
/-! who fits, as a list -/
def gl (f : Nat → Bool) : Nat → List Nat
  | 0 => []
  | n + 1 => if f n then gl f n ++ [n] else gl f n
theorem gl_len (f : Nat → Bool) : ∀ n, (gl f n).length ≤ n
  | 0 => Nat.le_refl _
  | n + 1 => by
    have := gl_len f n
    rw [gl]
    split
    · rw [List.length_append]; simp; omega
    · omega
theorem gl_mem (f : Nat → Bool) : ∀ (n p q : Nat), (gl f n)[p]? = some q → q < n
  | 0, p, q, h => by
    rw [gl] at h
    simp at h
  | n + 1, p, q, h => by
    rw [gl] at h
    cases c : f n
    · rw [c] at h
      have := gl_mem f n p q h
      omega
    · rw [c] at h
      simp only [if_true] at h
      rcases List.mem_append.mp (List.mem_of_getElem? h) with z | z
      · obtain ⟨i, hi⟩ := List.mem_iff_getElem?.mp z
        have := gl_mem f n i q hi
        omega
      · simp at z; omega
theorem f_best_4 {h s v : St} (hk : Tok s) (hs : Sts h s) (hH : HsT h s) (hS : Sgt v s) : ∀ (m l N : Nat) (r G : St), m + l = nlS s → m < N → R0 r → (∀ (p : Nat) (x : Nat), (gl (fit h s) l)[p]? = some x → WtV h s x (fun τ => G 4 (p * 100 + τ))) → ∃ r' G', fX1_bestStep_4 h v N (nI (gl (fit h s) l).length) (nI l) r G = fX1_bestStep_45 h v 300 (nI (gl (fit h s) (nlS s)).length) 0 9 0 r' G' ∧ R0 r' ∧ ∀ (p : Nat) (x : Nat), (gl (fit h s) (nlS s))[p]? = some x → WtV h s x (fun τ => G' 4 (p * 100 + τ))
  | 0, l, N, r, G, e, hN, h0, hG => by
    obtain ⟨N, rfl⟩ : ∃ M, N = M + 1 := ⟨N - 1, by omega⟩
    have h8 := nlS_8 hk
    have el : l = nlS s := by omega
    refine ⟨r, G, ?_, h0, by rw [← el]; exact hG⟩
    rw [fX1_bestStep_4, hH.1.2.1, if_pos (by rw [nI_le' (by omega) (by omega)]; omega), el]
  | m + 1, l, N, r, G, e, hN, h0, hG => by
    obtain ⟨N, rfl⟩ : ∃ M, N = M + 1 := ⟨N - 1, by omega⟩
    have h8 := nlS_8 hk
    have hlen := gl_len (fit h s) l
    obtain ⟨r', a1, a2, a3⟩ := f_fits (g := G) hk hs hH hS h0 (show l < nlS s by omega)
    rw [fX1_bestStep_4, hH.1.2.1, if_neg (by rw [nI_le' (by omega) (by omega)]; omega), a1, bd2_s]
    cases c : fit h s l
    · rw [if_pos bF, stp_n, nI_1]
      have eg : gl (fit h s) (l + 1) = gl (fit h s) l := by rw [gl, c]; rfl
      have := f_best_4 hk hs hH hS m (l + 1) N r' G (by omega) (by omega) a2 (by rw [eg]; exact hG)
      rw [eg] at this
      exact this
    · have eg : gl (fit h s) (l + 1) = gl (fit h s) l ++ [l] := by rw [gl, c]; rfl
      obtain ⟨G', b1, b2, b3⟩ := f_noteWeights (v := v) (G := G) (x := (gl (fit h s) l).length) hk hs (by omega) a3
      rw [if_neg bTn, b1, bd1_s, stp_n, stp_n, nI_1, nI_1]
      have := f_best_4 hk hs hH hS m (l + 1) N r' G' (by omega) (by omega) a2 (fun p x hp => by
        rw [eg] at hp
        by_cases d : p < (gl (fit h s) l).length
        · rw [List.getElem?_append_left d] at hp
          exact WtV_e (hG p x hp) (fun τ hτ => b2 _ (by omega))
        · rw [List.getElem?_append_right (by omega)] at hp
          have ep : p = (gl (fit h s) l).length := by
            by_cases q : p - (gl (fit h s) l).length = 0
            · omega
            · obtain ⟨q', hq'⟩ : ∃ q', p - (gl (fit h s) l).length = q' + 1 := ⟨p - (gl (fit h s) l).length - 1, by omega⟩
              rw [hq'] at hp
              simp at hp
          rw [ep, Nat.sub_self] at hp
          simp at hp
          rw [← hp, ep]
          exact b3)
      rw [eg, List.length_append] at this
      exact this
/-! ===== weigh: the best step by what is noted ===== -/
def cW (W : Nat → Int32) (x : Int32) : Nat → Nat
  | 0 => 0
  | n + 1 => cW W x n + (if x = W n then 1 else 0)
def mC (W : Nat → Int32) (G : Nat) : Nat → Nat
  | 0 => 0
  | a + 1 => max (mC W G a) (cW W (W a) G)
theorem cW_le (W : Nat → Int32) (x : Int32) : ∀ n, cW W x n ≤ n
  | 0 => Nat.le_refl _
  | n + 1 => by
    have := cW_le W x n
    rw [cW]
    split <;> omega
theorem mC_le (W : Nat → Int32) (G : Nat) : ∀ n, mC W G n ≤ G
  | 0 => Nat.zero_le _
  | n + 1 => by
    have := mC_le W G n
    have := cW_le W (W n) G
    rw [mC]
    omega
theorem f_mA_24 {h r v g : St} {G τ a : Nat} (rc : Int32 → Int32 → Int32 → Int32 → Option Int32) (hG : G ≤ 8) (hτ : τ < 100) (ha : a < G) (M : Nat) (hM : M ≤ 8) : ∀ (m b N : Nat), m + b = G → m < N → fX1_mostAlike_24 h r v g rc N (nI G) (nI τ) (nI M) (nI a) (nI (cW (fun p => g 4 (p * 100 + τ)) (g 4 (a * 100 + τ)) b)) (nI b) = rc (nI G) (nI τ) (nI (max M (cW (fun p => g 4 (p * 100 + τ)) (g 4 (a * 100 + τ)) G))) (nI (a + 1))
  | 0, b, N, e, hN => by
    obtain ⟨N, rfl⟩ : ∃ M, N = M + 1 := ⟨N - 1, by omega⟩
    have hc := cW_le (fun p => g 4 (p * 100 + τ)) (g 4 (a * 100 + τ)) G
    rw [fX1_mostAlike_24, if_pos (by rw [nI_le' (by omega) (by omega)]; omega), stp_n, stp_n, nI_1, show b = G by omega]
    congr 1
    by_cases c : M < cW (fun p => g 4 (p * 100 + τ)) (g 4 (a * 100 + τ)) G
    · rw [if_pos (nI_lt c (by omega)), Nat.max_eq_right (by omega)]
    · rw [if_neg (nI_nlt (by omega) (by omega)), Nat.max_eq_left (by omega)]
  | m + 1, b, N, e, hN => by
    obtain ⟨N, rfl⟩ : ∃ M, N = M + 1 := ⟨N - 1, by omega⟩
    have ih := f_mA_24 (h := h) (r := r) (v := v) (g := g) rc hG hτ ha M hM m (b + 1) N (by omega) (by omega)
    rw [cW] at ih
    rw [fX1_mostAlike_24, if_neg (by rw [nI_le' (by omega) (by omega)]; omega), if_neg (by rw [show (8 : Int32) = nI 8 from rfl, nI_le' (by omega) (by omega)]; omega), show (100 : Int32) = nI 100 from rfl, nI_mul, nI_mul, nI_add, nI_add, rd_nI rfl (show a * 100 + τ < 800 by omega) (by decide), rd_nI rfl (show b * 100 + τ < 800 by omega) (by decide)]
    by_cases c : g 4 (a * 100 + τ) = g 4 (b * 100 + τ)
    · rw [if_pos c, stp_n, stp_n, nI_1, nI_1]
      rw [if_pos c] at ih
      exact ih
    · rw [if_neg c, stp_n, nI_1]
      rw [if_neg c, Nat.add_zero] at ih
      exact ih
theorem f_mA_5 {h r v g : St} {G τ : Nat} (hG : G ≤ 8) (hτ : τ < 100) : ∀ (m a N : Nat), m + a = G → m < N → fX1_mostAlike_5 h r v g N (nI G) (nI τ) (nI (mC (fun p => g 4 (p * 100 + τ)) G a)) (nI a) = some (nI (mC (fun p => g 4 (p * 100 + τ)) G G))
  | 0, a, N, e, hN => by
    obtain ⟨N, rfl⟩ : ∃ M, N = M + 1 := ⟨N - 1, by omega⟩
    rw [fX1_mostAlike_5, if_pos (by rw [nI_le' (by omega) (by omega)]; omega), show a = G by omega]
  | m + 1, a, N, e, hN => by
    obtain ⟨N, rfl⟩ : ∃ M, N = M + 1 := ⟨N - 1, by omega⟩
    have ih := f_mA_5 (h := h) (r := r) (v := v) (g := g) hG hτ m (a + 1) N (by omega) (by omega)
    have hm := mC_le (fun p => g 4 (p * 100 + τ)) G a
    have k := f_mA_24 (h := h) (r := r) (v := v) (g := g) (fX1_mostAlike_5 h r v g N) hG hτ (show a < G by omega) (mC (fun p => g 4 (p * 100 + τ)) G a) (by omega) G 0 300 (by omega) (by omega)
    rw [fX1_mostAlike_5, if_neg (by rw [nI_le' (by omega) (by omega)]; omega), if_neg (by rw [show (8 : Int32) = nI 8 from rfl, nI_le' (by omega) (by omega)]; omega)]
    rw [mC] at ih
    exact k.trans ih
def bS (M : Nat → Nat) : Nat → Nat → Int32 → Int32 → Int32
  | 0, _, b, _ => b
  | m + 1, τ, b, l => if l ≤ nI (M τ) then bS M m (τ + 1) b l else bS M m (τ + 1) (nI τ) (nI (M τ))
theorem bS_e {M M' : Nat → Nat} : ∀ (m τ : Nat) (b l : Int32), (∀ i, τ ≤ i → i < τ + m → M i = M' i) → bS M m τ b l = bS M' m τ b l
  | 0, _, _, _, _ => rfl
  | m + 1, τ, b, l, e => by
    rw [bS, bS, e τ (by omega) (by omega), bS_e m (τ + 1) b l (fun i h1 h2 => e i (by omega) (by omega)), bS_e m (τ + 1) (nI τ) (nI (M' τ)) (fun i h1 h2 => e i (by omega) (by omega))]
theorem f_best_45 {h v r g : St} {G : Nat} (hG : G ≤ 8) : ∀ (m τ N : Nat) (b l : Int32), m + τ = 100 → m < N → fX1_bestStep_45 h v N (nI G) b l (nI τ) r g = some (bS (fun τ => mC (fun p => g 4 (p * 100 + τ)) G G) m τ b l, r, g)
  | 0, τ, N, b, l, e, hN => by
    obtain ⟨N, rfl⟩ : ∃ M, N = M + 1 := ⟨N - 1, by omega⟩
    rw [fX1_bestStep_45, if_pos (by rw [show (100 : Int32) = nI 100 from rfl, nI_le' (by omega) (by omega)]; omega)]
    rfl
  | m + 1, τ, N, b, l, e, hN => by
    obtain ⟨N, rfl⟩ : ∃ M, N = M + 1 := ⟨N - 1, by omega⟩
    have k : fX1_mostAlike h r v g (nI G) (nI τ) = _ := f_mA_5 (h := h) (r := r) (v := v) (g := g) hG (show τ < 100 by omega) G 0 300 (by omega) (by omega)
    rw [fX1_bestStep_45, if_neg (by rw [show (100 : Int32) = nI 100 from rfl, nI_le' (by omega) (by omega)]; omega), k, bd1_s, bS]
    by_cases c : l ≤ nI (mC (fun p => g 4 (p * 100 + τ)) G G)
    · rw [if_pos c, if_pos c, stp_n, nI_1]
      exact f_best_45 hG m (τ + 1) N b l (by omega) (by omega)
    · rw [if_neg c, if_neg c, stp_n, nI_1]
      exact f_best_45 hG m (τ + 1) N _ _ (by omega) (by omega)
/-! ===== weigh: the reference ===== -/
theorem bt_nvB (f : Nat → Bool) {k : Nat} (hk : k < 32) : ∀ n, n ≤ 32 → bt (nvB f n) k = (decide (k < n) && f k)
  | 0, _ => by rw [nvB, bt_zero]; simp
  | n + 1, hn => by
    have ih := bt_nvB f hk n (by omega)
    rw [nvB]
    cases c : f n
    · simp only [Bool.false_eq_true, if_false]
      rw [ih]
      by_cases e : k = n
      · subst e; simp [c]
      · simp [show (k < n + 1) = (k < n) by apply propext; omega]
    · simp only [if_true]
      rw [bt_or, ih, bt_one (by omega)]
      by_cases e : k = n
      · subst e; simp [c]
      · simp [e, show (k < n + 1) = (k < n) by apply propext; omega]
def cR (f : Nat → Bool) (L : Nat → Int32) (x : Int32) : Nat → Nat
  | 0 => 0
  | k + 1 => cR f L x k + (if f k = true ∧ x = L k then 1 else 0)
def nR (f : Nat → Bool) (L : Nat → Int32) (i k : Nat) : Nat := if f i then cR f L (L i) k else 0
def mR (f : Nat → Bool) (L : Nat → Int32) (n : Nat) : Nat → Nat
  | 0 => 0
  | i + 1 => max (mR f L n i) (nR f L i n)
theorem cR_le (f : Nat → Bool) (L : Nat → Int32) (x : Int32) : ∀ n, cR f L x n ≤ n
  | 0 => Nat.le_refl _
  | n + 1 => by
    have := cR_le f L x n
    rw [cR]
    split <;> omega
theorem nR_le (f : Nat → Bool) (L : Nat → Int32) (i n : Nat) : nR f L i n ≤ n := by
  unfold nR
  split
  · exact cR_le _ _ _ _
  · omega
theorem mR_le (f : Nat → Bool) (L : Nat → Int32) (n : Nat) : ∀ i, mR f L n i ≤ n
  | 0 => Nat.zero_le _
  | i + 1 => by
    have := mR_le f L n i
    have := nR_le f L i n
    rw [mR]
    omega
/-- the two counts agree -/
theorem cR_cW (f : Nat → Bool) (L W : Nat → Int32) (x : Int32) : ∀ n, (∀ (p q : Nat), (gl f n)[p]? = some q → W p = L q) → cR f L x n = cW W x (gl f n).length
  | 0, _ => rfl
  | n + 1, h => by
    rw [cR]
    cases c : f n
    · have eg : gl f (n + 1) = gl f n := by rw [gl, c]; rfl
      rw [eg] at h ⊢
      rw [cR_cW f L W x n h]
      simp
    · have eg : gl f (n + 1) = gl f n ++ [n] := by rw [gl, c]; rfl
      rw [eg] at h ⊢
      have hl : W (gl f n).length = L n := h _ n (by rw [List.getElem?_append_right (Nat.le_refl _), Nat.sub_self]; rfl)
      rw [List.length_append, List.length_singleton, cW, hl, cR_cW f L W x n (fun p q hp => h p q (by rw [List.getElem?_append_left (List.getElem?_eq_some_iff.mp hp).1]; exact hp))]
      simp
theorem mR_mC (f : Nat → Bool) (L W : Nat → Int32) (G N : Nat) (hc : ∀ x, cR f L x N = cW W x G) : ∀ n, (∀ (p q : Nat), (gl f n)[p]? = some q → W p = L q) → mR f L N n = mC W G (gl f n).length
  | 0, _ => rfl
  | n + 1, h => by
    rw [mR]
    unfold nR
    cases c : f n
    · have eg : gl f (n + 1) = gl f n := by rw [gl, c]; rfl
      rw [eg] at h ⊢
      rw [mR_mC f L W G N hc n h]
      simp
    · have eg : gl f (n + 1) = gl f n ++ [n] := by rw [gl, c]; rfl
      rw [eg] at h ⊢
      have hl : W (gl f n).length = L n := h _ n (by rw [List.getElem?_append_right (Nat.le_refl _), Nat.sub_self]; rfl)
      rw [List.length_append, List.length_singleton, mC, hl, hc, mR_mC f L W G N hc n (fun p q hp => h p q (by rw [List.getElem?_append_left (List.getElem?_eq_some_iff.mp hp).1]; exact hp))]
      simp
theorem f_w_104 {u : St} {f : Nat → Bool} {nl τ i M : Nat} (rc1 : Int32 → Int32 → Int32 → Int32 → St → Option (Int32 × St)) (rc2 : Int32 → Int32 → Int32 → Int32 → Int32 → Int32 → St → Option (Int32 × St)) (h6 : u 0 6 = nI nl) (h8 : nl ≤ 8) (hτ : τ < 100) (hi : i < nl) (hM : M ≤ 8) (b l : Int32) : ∀ (m k N : Nat), m + k = nl → m < N → fX9_weighNow_104 rc1 rc2 N (nvB f nl) b l (nI τ) (nI M) (nI i) (nI (nR f (fun q => u 38 (100 * q + τ)) i k)) (nI k) u = rc2 (nvB f nl) b l (nI τ) (nI (max M (nR f (fun q => u 38 (100 * q + τ)) i nl))) (nI (i + 1)) u
  | 0, k, N, e, hN => by
    obtain ⟨N, rfl⟩ : ∃ M, N = M + 1 := ⟨N - 1, by omega⟩
    have hn := nR_le f (fun q => u 38 (100 * q + τ)) i nl
    rw [fX9_weighNow_104, h6, if_pos (by rw [nI_le' (by omega) (by omega)]; omega), show k = nl by omega]
    by_cases c : nR f (fun q => u 38 (100 * q + τ)) i nl ≤ M
    · rw [if_pos (nI_le c (by omega)), stp_n, nI_1, Nat.max_eq_left c]
    · rw [if_neg (nI_ge (by omega) (by omega)), stp_n, nI_1, Nat.max_eq_right (by omega)]
  | m + 1, k, N, e, hN => by
    obtain ⟨N, rfl⟩ : ∃ M, N = M + 1 := ⟨N - 1, by omega⟩
    have ih := f_w_104 (u := u) (f := f) rc1 rc2 h6 h8 hτ hi hM b l m (k + 1) N (by omega) (by omega)
    have bi := bt_nvB f (k := i) (by omega) nl (by omega)
    have bk := bt_nvB f (k := k) (by omega) nl (by omega)
    rw [fX9_weighNow_104, h6, if_neg (by rw [nI_le' (by omega) (by omega)]; omega), f_isIn _ (show i < 32 by omega), bd1_s, bi]
    unfold nR at ih ⊢
    cases ci : f i
    · rw [ci] at ih
      simp only [Bool.false_eq_true, if_false, hi, decide_true, Bool.true_and] at ih ⊢
      rw [if_pos trivial, stp_n, stp_n, Int32.add_zero, nI_1]
      exact ih
    · rw [ci] at ih
      simp only [if_true, hi, decide_true, Bool.true_and] at ih ⊢
      rw [if_neg n10, f_isIn _ (show k < 32 by omega), bd1_s, bk]
      rw [cR] at ih
      cases ck : f k
      · rw [ck] at ih
        have hkk : k < nl := by omega
        simp only [Bool.false_eq_true, false_and, if_false, Nat.add_zero, hkk, decide_true, Bool.true_and] at ih ⊢
        rw [if_pos trivial, stp_n, stp_n, Int32.add_zero, nI_1]
        exact ih
      · rw [ck] at ih
        have hkk : k < nl := by omega
        simp only [true_and, if_true, hkk, decide_true, Bool.true_and] at ih ⊢
        rw [if_neg n10, show (100 : Int32) = nI 100 from rfl, nI_mul, nI_mul, nI_add, nI_add, rd_nI rfl (show 100 * i + τ < 800 by omega) (by decide), rd_nI rfl (show 100 * k + τ < 800 by omega) (by decide)]
        by_cases c : u 38 (100 * i + τ) = u 38 (100 * k + τ)
        · rw [if_pos c, stp_n, stp_n, nI_1, nI_1]
          rw [if_pos c] at ih
          exact ih
        · rw [if_neg c, stp_n, stp_n, Int32.add_zero, nI_1]
          rw [if_neg c, Nat.add_zero] at ih
          exact ih
theorem f_w_89 {u : St} {f : Nat → Bool} {nl τ : Nat} (rc1 : Int32 → Int32 → Int32 → Int32 → St → Option (Int32 × St)) (h6 : u 0 6 = nI nl) (h8 : nl ≤ 8) (hτ : τ < 100) (b l : Int32) : ∀ (m i N : Nat), m + i = nl → m < N → fX9_weighNow_89 rc1 N (nvB f nl) b l (nI τ) (nI (mR f (fun q => u 38 (100 * q + τ)) nl i)) (nI i) u = if l ≤ nI (mR f (fun q => u 38 (100 * q + τ)) nl nl) then rc1 (nvB f nl) b l (nI (τ + 1)) u else rc1 (nvB f nl) (nI τ) (nI (mR f (fun q => u 38 (100 * q + τ)) nl nl)) (nI (τ + 1)) u
  | 0, i, N, e, hN => by
    obtain ⟨N, rfl⟩ : ∃ M, N = M + 1 := ⟨N - 1, by omega⟩
    rw [fX9_weighNow_89, h6, if_pos (by rw [nI_le' (by omega) (by omega)]; omega), show i = nl by omega, stp_n, stp_n, nI_1]
  | m + 1, i, N, e, hN => by
    obtain ⟨N, rfl⟩ : ∃ M, N = M + 1 := ⟨N - 1, by omega⟩
    have ih := f_w_89 (u := u) (f := f) rc1 h6 h8 hτ b l m (i + 1) N (by omega) (by omega)
    have hm := mR_le f (fun q => u 38 (100 * q + τ)) nl i
    have n0 : nR f (fun q => u 38 (100 * q + τ)) i 0 = 0 := by unfold nR; split <;> rfl
    have k := f_w_104 (u := u) (f := f) (i := i) (M := mR f (fun q => u 38 (100 * q + τ)) nl i) rc1 (fX9_weighNow_89 rc1 N) h6 h8 hτ (by omega) (by omega) b l nl 0 300 (by omega) (by omega)
    rw [n0] at k
    rw [fX9_weighNow_89, h6, if_neg (by rw [nI_le' (by omega) (by omega)]; omega)]
    rw [mR] at ih
    exact k.trans ih
theorem f_w_76 {u : St} {f : Nat → Bool} {nl : Nat} (h6 : u 0 6 = nI nl) (h8 : nl ≤ 8) : ∀ (m τ N : Nat) (b l : Int32), m + τ = 100 → m < N → fX9_weighNow_76 N (nvB f nl) b l (nI τ) u = some (bS (fun τ => mR f (fun q => u 38 (100 * q + τ)) nl nl) m τ b l, u)
  | 0, τ, N, b, l, e, hN => by
    obtain ⟨N, rfl⟩ : ∃ M, N = M + 1 := ⟨N - 1, by omega⟩
    rw [fX9_weighNow_76, if_pos (by rw [show (100 : Int32) = nI 100 from rfl, nI_le' (by omega) (by omega)]; omega)]
    rfl
  | m + 1, τ, N, b, l, e, hN => by
    obtain ⟨N, rfl⟩ : ∃ M, N = M + 1 := ⟨N - 1, by omega⟩
    have k := f_w_89 (u := u) (f := f) (τ := τ) (fX9_weighNow_76 N) h6 h8 (by omega) b l nl 0 300 (by omega) (by omega)
    rw [fX9_weighNow_76, if_neg (by rw [show (100 : Int32) = nI 100 from rfl, nI_le' (by omega) (by omega)]; omega), bS]
    refine Eq.trans k ?_
    by_cases c : l ≤ nI (mR f (fun q => u 38 (100 * q + τ)) nl nl)
    · rw [if_pos c, if_pos c]
      exact f_w_76 h6 h8 m (τ + 1) N b l (by omega) (by omega)
    · rw [if_neg c, if_neg c]
      exact f_w_76 h6 h8 m (τ + 1) N _ _ (by omega) (by omega)
theorem f_w_34 {l : Nat} (rc : Int32 → Int32 → St → Option (Int32 × St)) (hl : l < 8) (bits : Int32) (F : Nat → Int32) : ∀ (m τ N : Nat) (u : St), m + τ = 100 → m < N → (∀ i, i < 100 → fX9_loadBehind u (nI i) = some (F i)) → ∃ u', fX9_weighNow_34 rc N bits (nI l) (nI τ) u = rc bits (nI (l + 1)) u' ∧ (∀ c, c ≠ 38 → u' c = u c) ∧ ∀ i, u' 38 i = if 100 * l + τ ≤ i ∧ i < 100 * l + 100 then F (i - 100 * l) else u 38 i
  | 0, τ, N, u, e, hN, hF => by
    obtain ⟨N, rfl⟩ : ∃ M, N = M + 1 := ⟨N - 1, by omega⟩
    refine ⟨u, ?_, fun _ _ => rfl, fun i => by rw [if_neg (by omega)]⟩
    rw [fX9_weighNow_34, if_pos (by rw [show (100 : Int32) = nI 100 from rfl, nI_le' (by omega) (by omega)]; omega), stp_n, nI_1]
  | m + 1, τ, N, u, e, hN, hF => by
    obtain ⟨N, rfl⟩ : ∃ M, N = M + 1 := ⟨N - 1, by omega⟩
    rw [fX9_weighNow_34, if_neg (by rw [show (100 : Int32) = nI 100 from rfl, nI_le' (by omega) (by omega)]; omega), hF τ (by omega), bd1_s, show (100 : Int32) = nI 100 from rfl, nI_mul, nI_add, wr_nI rfl (show 100 * l + τ < 800 by omega) (by decide), stp_n, nI_1]
    obtain ⟨u', a1, a2, a3⟩ := f_w_34 (l := l) rc hl bits F m (τ + 1) N (sS u 38 (100 * l + τ) (F τ)) (by omega) (by omega) hF
    refine ⟨u', a1, fun c hc => by rw [a2 c hc, sS_o hc], fun i => ?_⟩
    rw [a3 i, sS_s]
    by_cases d : i = 100 * l + τ
    · rw [d, if_neg (by omega), if_pos (by omega), upd_s]
      congr 1; omega
    · rw [upd_o d]
      have : (100 * l + (τ + 1) ≤ i ∧ i < 100 * l + 100) = (100 * l + τ ≤ i ∧ i < 100 * l + 100) := by apply propext; omega
      simp only [this]
theorem Rdw_38 {h s t t' : St} (e : ∀ c, c ≠ 38 → t' c = t c) (H : Rdw h s t) : Rdw h s t' := by
  unfold Rdw Rdd Sts Way at *
  rw [e 0 (by decide), e 4 (by decide), e 5 (by decide), e 6 (by decide), e 8 (by decide), e 9 (by decide), e 11 (by decide), e 15 (by decide)]
  exact H
theorem Dur_38 {s t t' : St} (e : ∀ c, c ≠ 38 → t' c = t c) (H : Dur s t) : Dur s t' := by
  unfold Dur at *
  rw [e 0 (by decide), e 1 (by decide), e 2 (by decide), e 36 (by decide), e 37 (by decide), e 39 (by decide), e 40 (by decide), e 41 (by decide), e 42 (by decide)]
  exact H
theorem f_w_7 {h s : St} (hk : Tok s) (bits : Int32) (LD : Nat → Nat → Int32) (hL : ∀ l, l < nlS s → WtV h s l (LD l)) : ∀ (m l N : Nat) (u : St), m + l = nlS s → m < N → Rdw h s u → Dur s u → (∀ q, q < l → ∀ τ, τ < 100 → u 38 (100 * q + τ) = LD q τ) → ∃ u', fX9_weighNow_7 N bits (nI l) u = fX9_weighNow_76 300 bits 0 9 0 u' ∧ Rdw h s u' ∧ Dur s u' ∧ ∀ q, q < nlS s → ∀ τ, τ < 100 → u' 38 (100 * q + τ) = LD q τ
  | 0, l, N, u, e, hN, hW, hD, hu => by
    obtain ⟨N, rfl⟩ : ∃ M, N = M + 1 := ⟨N - 1, by omega⟩
    have h8 := nlS_8 hk
    refine ⟨u, ?_, hW, hD, by rw [show nlS s = l by omega]; exact hu⟩
    rw [fX9_weighNow_7, hW.1.2.1, if_pos (by rw [nI_le' (by omega) (by omega)]; omega)]
  | m + 1, l, N, u, e, hN, hW, hD, hu => by
    obtain ⟨N, rfl⟩ : ∃ M, N = M + 1 := ⟨N - 1, by omega⟩
    have h8 := nlS_8 hk
    obtain ⟨t', a1, a2, a3⟩ := hL l (by omega) (sS u 0 15 (mkR l)) (Rdw_S hW (mkR l) (mkC (nlS s) l) (fun k hk2 => mk_e2 h8 (by omega) hk2))
    have a1' : fX9_runs (sS u 0 15 ((255 : Int32) &&& (((1 : Int32) <<< (nI l &&& 31)) ^^^ (-1)))) = _ := a1
    obtain ⟨u1, b1, b2, b3⟩ := f_w_34 (l := l) (fX9_weighNow_7 N) (by omega) bits (LD l) 100 0 300 t' (by omega) (by omega) a3
    have e38 : t' 38 = u 38 := a2.1 38 (by decide) (by decide) (by decide) (by decide) (by decide) (by decide) (by decide) (by decide) (by decide) (by decide)
    obtain ⟨u', c1, c2, c3, c4⟩ := f_w_7 hk bits LD hL m (l + 1) N u1 (by omega) (by omega) (Rdw_38 b2 (Rdw_frm a2 (Rdw_0 (mkR l) hW))) (Dur_38 b2 ((Dur_0 (mkR l) hD).tr a2.dur)) (fun q hq τ hτ => by
      rw [b3]
      by_cases d : q = l
      · rw [d, if_pos (by omega)]; congr 1; omega
      · rw [if_neg (by omega), e38]; exact hu q (by omega) τ hτ)
    refine ⟨u', ?_, c2, c3, c4⟩
    rw [fX9_weighNow_7, hW.1.2.1, if_neg (by rw [nI_le' (by omega) (by omega)]; omega), stp_n, a1', bd1_s]
    exact b1.trans c1
theorem WtV_ex {h s : St} (hk : Tok s) (hs : Sts h s) (hH : HsT h s) (l : Nat) : ∃ f, WtV h s l f := by
  obtain ⟨r1, r', a1, a2, a3, a4⟩ := ride_told (r0 := fun _ _ => 0) hk hs hH (mkC (nlS s) l) (-1) (-1) ⟨rfl, rfl, rfl, rfl, rfl, rfl, rfl⟩
  obtain ⟨G', b1, b2, b3⟩ := f_noteWeights (v := fun _ _ => 0) (G := fun _ _ => 0) (x := 0) hk hs (by omega) a4
  exact ⟨_, b3⟩
theorem WtV_u {h s : St} (hk : Tok s) (hs : Sts h s) {l : Nat} {f g : Nat → Int32} (hf : WtV h s l f) (hg : WtV h s l g) : ∀ τ, τ < 100 → f τ = g τ := by
  have h20 := nsS_20 hk
  have hl := wyT_len s (-1) (-1)
  obtain ⟨u0, r0, -⟩ := Rdy_exD hk hs (mkC (nlS s) l) (fs := wyT s (-1) (-1)) (by omega) (wyT_lt hk _ _)
  obtain ⟨t1, a1, a2, a3⟩ := hf u0 r0
  obtain ⟨t2, b1, b2, b3⟩ := hg u0 r0
  rw [a1] at b1
  cases b1
  intro τ hτ
  have := (a3 τ hτ).symm.trans (b3 τ hτ)
  exact Option.some.inj this
theorem weigh_of {z : Nat → St} {y : Nat → Lt} {s u : St} (H : Rel z y s) (F : Fsh z y s) (D : Dur s u) : ∃ v r' g' u', fX1_bestStep (z 8) (z 10) (z 13) (z 14) = some (v, r', g') ∧ fX9_weighNow u = some (v, u') ∧ R0 r' ∧ Dur s u' := by
  have hk := H.1.1
  have hs := H.2.1
  have l8 := nlS_8 hk
  obtain ⟨r', G, a1, a2, a3⟩ := f_best_4 hk hs F.1 H.2.2.1 (nlS s) 0 300 (z 10) (z 14) (by omega) (by omega) H.2.2.2.2.2.2.1 (fun p x hp => by
    rw [gl] at hp
    simp at hp)
  have a1' : fX1_bestStep (z 8) (z 10) (z 13) (z 14) = _ := a1
  have hlen := gl_len (fit (z 8) s) (nlS s)
  -- the reference
  have Hu := Rel_d D H
  have Fu := Fsh_x D.tx F
  obtain ⟨u1, b1, b2, b3⟩ := never_r Hu Fu
  have eS := S_x D.tx
  rw [eS.2.1] at b1
  have efit : fit (z 8) u = fit (z 8) s := by
    funext l
    have hSu : Sgt (z 13) u := Sgt_d D H.2.2.1
    obtain ⟨r1, r2, x1, x2, x3, x4⟩ := ride_told (r0 := fun _ _ => 0) hk hs F.1 (mkC (nlS s) l) (-1) (-1) ⟨rfl, rfl, rfl, rfl, rfl, rfl, rfl⟩
    have f1 := (fit_of hk hs H.2.2.1 x4).1
    have x4' : RidV (z 8) u r2 (mkC (nlS u) l) (wyT u (-1) (-1)) := by rw [RidV_x D.tx, eS.2.1, wyT_x D.tx]; exact x4
    have f2 := (fit_of (Tok_x D.tx hk) (Sts_d D.tx hs) hSu x4').1
    rw [f1] at f2
    cases c1 : fit (z 8) s l <;> cases c2 : fit (z 8) u l <;> rw [c1, c2] at f2 <;> simp at f2 ⊢
  rw [efit] at b1
  have b2' : Rdw (z 8) s u1 := by
    unfold Rdw at b2 ⊢
    rw [Rdd_x D.tx, wyT_x D.tx] at b2
    exact b2
  have hex : ∀ l, ∃ f, WtV (z 8) s l f := fun l => WtV_ex hk hs F.1 l
  obtain ⟨u2, c1, c2, c3, c4⟩ := f_w_7 hk (nvB (fit (z 8) s) (nlS s)) (fun l => Classical.choose (hex l)) (fun l _ => Classical.choose_spec (hex l)) (nlS s) 0 300 u1 (by omega) (by omega) b2' (D.tr b3) (fun q hq => absurd hq (by omega))
  have w76 := f_w_76 (u := u2) (f := fit (z 8) s) c2.1.2.1 l8 100 0 300 0 9 (by omega) (by omega)
  have b45 := f_best_45 (h := z 8) (v := z 13) (r := r') (g := G) (G := (gl (fit (z 8) s) (nlS s)).length) (by omega) 100 0 300 0 9 (by omega) (by omega)
  have eM : bS (fun τ => mC (fun p => G 4 (p * 100 + τ)) (gl (fit (z 8) s) (nlS s)).length (gl (fit (z 8) s) (nlS s)).length) 100 0 0 9 = bS (fun τ => mR (fit (z 8) s) (fun q => u2 38 (100 * q + τ)) (nlS s) (nlS s)) 100 0 0 9 := by
    apply bS_e
    intro τ _ hτ
    have hWL : ∀ (p q : Nat), (gl (fit (z 8) s) (nlS s))[p]? = some q → G 4 (p * 100 + τ) = u2 38 (100 * q + τ) := by
      intro p q hp
      have hq : q < nlS s := gl_mem _ _ _ _ hp
      rw [c4 q hq τ (by omega)]
      exact WtV_u hk hs (a3 p q hp) (Classical.choose_spec (hex q)) τ (by omega)
    exact (mR_mC (fit (z 8) s) (fun q => u2 38 (100 * q + τ)) (fun p => G 4 (p * 100 + τ)) (gl (fit (z 8) s) (nlS s)).length (nlS s) (fun x => cR_cW _ _ _ x (nlS s) hWL) (nlS s) hWL).symm
  refine ⟨_, r', G, u2, a1'.trans b45, ?_, a2, c3⟩
  unfold fX9_weighNow
  rw [b1, bd2_s, eM]
  exact c1.trans w76
theorem Rel_14 {z : Nat → St} {y : Nat → Lt} {s g : St} (H : Rel z y s) : Rel (va_up z 14 g) y s := by
  obtain ⟨h1, h2, h3, h4, h5, h6, h7, h8⟩ := H
  refine ⟨⟨h1.1, fun κ hκ => ?_⟩, h2, h3, fun o ho => ?_, h5, h6, h7, ?_⟩
  · rw [up_o (by omega)]; exact h1.2 κ hκ
  · rw [up_o (by omega)]; exact h4 o ho
  · rcases h8 with h8 | ⟨h8, h9⟩
    · exact Or.inl h8
    · exact Or.inr ⟨h8, h9⟩
theorem c_weigh {z : Nat → St} {y : Nat → Lt} {s : St} (H : Rel z y s) : Ans (fX8_weigh z y) (fX9_weigh s) y := by
  unfold fX8_weigh fX9_weigh
  obtain ⟨z', a1, a2, a3, -⟩ := f_freshen H
  obtain ⟨v, r', g', u', b1, b2, b3, b4⟩ := weigh_of a2 a3 Dur.rf
  rw [a1, bd1_s, b1, bd3_s, stp_n, stp_n, b2, bd2_s]
  exact ⟨_, _, _, rfl, rfl, Rel_14 (Rel_10 (Rel_d b4 a2) b3)⟩
