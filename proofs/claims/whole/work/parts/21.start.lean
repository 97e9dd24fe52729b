/-! ===== at the start class and reference agree ===== -/
def R0 (r : St) : Prop := r 2 0 = 0 ∧ r 3 0 = 0 ∧ r 4 0 = 0 ∧ r 5 0 = 0 ∧ r 6 0 = 0 ∧ r 7 0 = 0 ∧ r 9 0 = 0
theorem ldS_z (hv ah : Nat → Int32) : ∀ n, ldS 0 0 hv ah n = 0
  | 0 => rfl
  | n + 1 => by rw [ldS, ldS_z hv ah n]; simp [bt_zero]
theorem RR_start {h r t : St} {nr nl hf : Nat} (hH : Hou h t nr nl hf) (hL : Lea r t nr nl) (h9 : r 0 9 = nI 1) (h8 : r 8 0 = h 0 5) (h0 : R0 r) : RR h r (bT t nr) 0 0 nr nl hf (fun _ => 2 * 0) ∧ whn r 0 = 0 ∧ pN r 0 = 2 * 0 := by
  obtain ⟨r2, r3, r4, r5, r6, r7, r9⟩ := h0
  obtain ⟨⟨hr1, hr2, hr8⟩, -, -, -, -, -, -, hhome⟩ := id hH
  have u : ∀ c, c ≠ 0 → c ≠ 23 → c ≠ 24 → c ≠ 25 → c ≠ 26 → c ≠ 27 → c ≠ 28 → c ≠ 29 → c ≠ 32 → c ≠ 33 → bT t nr c = t c := by
    intro c a0 a1 a2 a3 a4 b1 b2 b3 a5 a6
    unfold bT
    rw [tN2_c _ _ a5 a6]
    unfold tW bgT g5 st0
    rw [up_o a4, up_o a3, up_o a2, up_o a1, up_o a6, up_o a5, up_o b3, up_o b2, up_o b1]
    rw [sS_o a0, sS_o a0, sS_o a0, sS_o a0, sS_o a0, sS_o a0, sS_o a0, sS_o a0]
  have u4 := u 4 (by decide) (by decide) (by decide) (by decide) (by decide) (by decide) (by decide) (by decide) (by decide) (by decide)
  have u5 := u 5 (by decide) (by decide) (by decide) (by decide) (by decide) (by decide) (by decide) (by decide) (by decide) (by decide)
  have u6 := u 6 (by decide) (by decide) (by decide) (by decide) (by decide) (by decide) (by decide) (by decide) (by decide) (by decide)
  have u8 := u 8 (by decide) (by decide) (by decide) (by decide) (by decide) (by decide) (by decide) (by decide) (by decide) (by decide)
  have u9 := u 9 (by decide) (by decide) (by decide) (by decide) (by decide) (by decide) (by decide) (by decide) (by decide) (by decide)
  have w0 : whn r 0 = 0 := by unfold whn; rw [r2]; rfl
  have p0 : pN r 0 = 0 := by unfold pN; rw [r3]; rfl
  have ld0 : ldM (bT t nr) = 0 := ldS_z _ _ 8
  have ld1 : ldM (bgT (st0 t) nr 8) = 0 := ldS_z _ _ 8
  have hb0 : ∀ q, q < nr → bt (r 8 0) q = decide (t 5 q = t 6 q) := fun q hq => by rw [h8, hhome q (by omega)]; simp [hq]
  have s27 : ∀ q, q < nr → bT t nr 27 q = -1 := fun q hq => by
    show fil (fun _ => (-1 : Int32)) _ 8 q = -1
    rw [fil_in (by omega)]
  have s28 : ∀ q, q < nr → bT t nr 28 q = aa0 t nr q := fun q hq => by
    show fil (aa0 (st0 t) nr) _ 8 q = _
    rw [fil_in (by omega)]
    rfl
  have k0 : ∀ q, q < nr → knN (tW (bgT (st0 t) nr 8) 0) q = 0 := fun q hq => by
    unfold knN
    have : tW (bgT (st0 t) nr 8) 0 0 18 = 0 := rfl
    rw [this, bt_zero]
    show fil (fun _ => (0 : Int32)) _ 8 q = 0
    rw [fil_in (by omega)]
  refine ⟨⟨Hou_e hH ⟨rfl, rfl, rfl, rfl⟩ u4 u5 u6 u8, Lea_e hL rfl rfl rfl u4 u9, ⟨h9, fun i hi => ?_, w0, fun i hi => absurd hi (by omega)⟩, ?_, ?_, ?_, ?_⟩, w0, p0⟩
  · have : i = 0 := by omega
    subst this
    rw [w0, p0, r2, r3]
    exact ⟨rfl, by decide, rfl, by decide⟩
  · refine ⟨rfl, by rw [w0]; exact Nat.le_refl _, by rw [r5]; rfl, by rw [r6]; rfl, fun k hk => ?_, fun k hk => ?_, fun k hk hb => ?_, fun k hk hb => ?_, fun k hk hb => ?_, fun k hk hb => ?_, by rw [r4, ld0], stab_tN2 _ _⟩
    · show bt (0 : Int32) k = _
      rw [r6, r7, bt_zero]; rfl
    · show bt (0 : Int32) k = _
      rw [r5, bt_zero, h8, hhome k hk, u5, u6]
      by_cases c : t 5 k = t 6 k <;> simp [c]
    · rw [r5, bt_zero] at hb; cases hb
    · rw [r6, bt_zero] at hb; cases hb
    · rw [h8, hhome k hk] at hb
      simp at hb
      exact hb.1
    · rw [u5, u6] at hb
      rw [hb0 k hk]; simp [hb]
  · refine ⟨fun i τ hi => absurd hi (by omega), fun τ a b => ?_⟩
    have : τ = 0 := by omega
    subst this
    refine ⟨⟨?_, ?_, ?_⟩, ?_⟩
    · show upd (t 24) 0 (ldM (bgT (st0 t) nr 8)) 0 = _
      rw [upd_s, ld1, r4]
    · show upd (t 25) 0 (0 : Int32) 0 = _
      rw [upd_s, r5]
    · show upd (t 26) 0 (0 : Int32) 0 = _
      rw [upd_s, r6]
    · show upd (t 23) 0 (0 : Int32) 0 = _
      rw [upd_s]; rfl
  · refine ⟨fun q hq => ⟨?_, ?_, ?_, ?_, ?_⟩, ?_, ?_⟩
    · rw [s27 q hq, fst1, fst1, if_pos rfl, r5, bt_zero]; rfl
    · rw [s28 q hq, fst1, fst1, if_pos rfl]
      show _ = if bt (r 8 0) q = true then r 2 0 else -1
      rw [hb0 q hq, r2]
      unfold aa0
      by_cases c : t 5 q = t 6 q <;> simp [c, hq]
    · rw [cnt1, cnt1, r9, bt_zero]
      show fil (fun _ => (0 : Int32)) _ 8 q = _
      rw [fil_in (by omega)]; rfl
    · rw [knR, knR, r5, bt_zero]
      show tN2 _ nr nr 32 q = _
      rw [tN2_32 _ hq, k0 q hq]; rfl
    · rw [hdR, hdR, r5, bt_zero]
      show tN2 _ nr nr 33 q = _
      rw [tN2_33 _ hq]
      unfold hdN2
      have : tW (bgT (st0 t) nr 8) 0 0 18 = 0 := rfl
      rw [this, bt_zero]
      show hdN _ q = _
      unfold hdN
      rw [k0 q hq, or_z]
      show fil (fun _ => (0 : Int32)) _ 8 q = _
      rw [fil_in (by omega)]; rfl
    · rw [fst1, fst1, if_pos rfl, r9]; rfl
    · rw [fst1, fst1, if_pos rfl, r9]; rfl
  · refine ⟨fun q hq => Or.inl (s27 q hq), fun q hq hb => ?_, fun k hk hb => ?_, ?_⟩
    · rw [s28 q hq]
      rw [hb0 q hq] at hb
      unfold aa0
      simp at hb
      rw [if_neg (fun z => hb z.2)]
    · rw [r5, bt_zero] at hb; cases hb
    · show (-1 : Int32) = -1 ↔ (-1 : Int32) = -1
      exact Iff.rfl
