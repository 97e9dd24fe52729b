/-! ===== a whole ride: both sides ===== -/
theorem Frm_bT (t : St) (nr : Nat) : Frm t (bT t nr) := by
  refine ⟨fun c a0 a1 a2 a3 a4 b1 b2 b3 a5 a6 => ?_, fun i a b c d e f g j => ?_⟩
  · unfold bT
    rw [tN2_c _ _ a5 a6]
    unfold tW bgT g5 st0
    rw [up_o a4, up_o a3, up_o a2, up_o a1, up_o a6, up_o a5, up_o b3, up_o b2, up_o b1]
    rw [sS_o a0, sS_o a0, sS_o a0, sS_o a0, sS_o a0, sS_o a0, sS_o a0, sS_o a0]
  · have e0 : bT t nr 0 i = st0 t 0 i := rfl
    rw [e0]
    unfold st0
    simp only [sS_s]
    rw [upd_o j, upd_o g, upd_o f, upd_o e, upd_o d, upd_o c, upd_o b, upd_o a]
/-- who may leave, as the house and the reference have it -/
def Lvs (h t : St) (S : Int32) (nl : Nat) : Prop := (∀ l, l < nl → ∃ w, w < 8 ∧ t 9 l = nI w) ∧ (∀ l, l < nl → h 11 l = t 9 l) ∧ ∀ k, k < nl → bt S k = bt (t 0 15) k
theorem Lea_begin {h r' t : St} {S : Int32} {nr nl hf : Nat} (hH : Hou h t nr nl hf) (hS : Lvs h t S nl) (e1 : ∀ k, k < 32 → bt (r' 0 10) k = (decide (k < nl) && lvB h S nr k)) (e2 : ∀ l, l < nl → bt (r' 0 10) l = true → r' 12 l = h 7 (ix (h 11 l)) / 2) : Lea r' t nr nl := by
  obtain ⟨⟨hr1, hr2, hr8⟩, ⟨hl1, hl2, hl8⟩, -, -, hrd, -, -, -⟩ := id hH
  obtain ⟨s1, s2, s3⟩ := hS
  refine ⟨s1, fun k hk => ?_, fun l hl hb => ?_⟩
  · rw [e1 k hk]
    by_cases c : k < nl
    · unfold lvB; rw [s3 k c, s2 k c]
    · simp [c]
  · rw [e2 l hl hb, s2 l hl]
    rw [e1 l (by omega)] at hb
    unfold lvB at hb
    rw [s2 l hl] at hb
    simp only [Bool.and_eq_true, decide_eq_true_eq] at hb
    obtain ⟨w, hw, ew⟩ := s1 l hl
    rw [ew, nI_lt' (by omega) (by omega)] at hb
    unfold ahM
    rw [ew, ix_nI (by omega), (hrd w hb.2.2).1]
def Way (t : St) (fs : List Nat) : Prop := t 0 13 = nI fs.length ∧ (∀ i, i < fs.length → t 15 i = nI (fs.getD i 0)) ∧ fs.length ≤ 22 ∧ ∀ f, f ∈ fs → f < 10
theorem RR_ride {h r t : St} {S : Int32} {nr nl hf : Nat} {fs : List Nat} (hH : Hou h t nr nl hf) (hS : Lvs h t S nl) (h0 : R0 r) (hW : Way t fs) : ∃ r1 r' t' j w fl, fX4_begin h r S = some r1 ∧ goL h fs r1 = some r' ∧ fX9_runs t = some t' ∧ RR h r' t' j w nr nl hf (fun _ => 2 * fl) ∧ whn r' j = w ∧ pN r' j = 2 * fl ∧ fl < 10 ∧ j ≤ 2 * fs.length ∧ w ≤ 11 * fs.length ∧ Frm t t' ∧ R0 r' ∧ Lw r' j ∧ Dw r' j ∧ Mn r' j := by
  obtain ⟨⟨hr1, hr2, hr8⟩, ⟨hl1, hl2, hl8⟩, -, -, -, -, -, -⟩ := id hH
  obtain ⟨w1, w2, w3, w4⟩ := hW
  obtain ⟨r1, b1, b2, b3, b4, b5, b6⟩ := f_begin h r S hl1 hl8 hr1 hr8 (fun l hl => by
    obtain ⟨w, hw, ew⟩ := hS.1 l hl
    exact ⟨w, hw, by rw [hS.2.1 l hl, ew]⟩)
  have h01 : R0 r1 := by
    unfold R0
    rw [b4 2 (by decide) (by decide) (by decide), b4 3 (by decide) (by decide) (by decide), b4 4 (by decide) (by decide) (by decide), b4 5 (by decide) (by decide) (by decide), b4 6 (by decide) (by decide) (by decide), b4 7 (by decide) (by decide) (by decide), b4 9 (by decide) (by decide) (by decide)]
    exact h0
  obtain ⟨s1, s2, s3⟩ := RR_start hH (Lea_begin hH hS b5 b6) b2 (by rw [b3, upd_s]) h01
  have F0 := Frm_bT t nr
  have e13 : bT t nr 0 13 = t 0 13 := F0.2 13 (by decide) (by decide) (by decide) (by decide) (by decide) (by decide) (by decide) (by decide)
  have e15 : bT t nr 15 = t 15 := F0.1 15 (by decide) (by decide) (by decide) (by decide) (by decide) (by decide) (by decide) (by decide) (by decide) (by decide)
  obtain ⟨r2, t2, j2, wz, fl2, p1, p2, p3, p4, p5, p6, p7, p8, p9, F2, q1, q2, q3, q4, q5, q6⟩ := RR_row fs 0 300 r1 (bT t nr) 0 0 0 s1 s2 s3 (by omega) w4 (by rw [e13, w1, Nat.zero_add]) (fun i hi => by rw [e15, Nat.zero_add, w2 i hi]) (by omega) (by omega) (by omega) (by omega)
  refine ⟨r1, r2, t2, j2, wz, fl2, b1, p1, ?_, p3, p4, p5, p6, by omega, by omega, F0.tr F2, ?_, q4 (fun i hi hz => ?_), q5 (fun i hi => absurd hi (by omega)), q6 (fun i q hi => absurd hi (by omega))⟩
  · unfold fX9_runs
    rw [f_begins t hr2 hr8, bd1_s]
    exact p2
  · unfold R0
    rw [q3 2 0 (by decide) (by omega), q3 3 0 (by decide) (by omega), q3 4 0 (by decide) (by omega), q3 5 0 (by decide) (by omega), q3 6 0 (by decide) (by omega), q3 7 0 (by decide) (by omega), q3 9 0 (by decide) (by omega)]
    exact h01
  · rw [show i = 0 by omega] at hz
    exact absurd h01.2.2.2.2.2.2 hz
