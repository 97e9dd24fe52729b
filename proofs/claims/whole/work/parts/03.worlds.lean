def wbX7 (K : Nat → ClassId) (a : Nat → Nat) (t : St) : va_W := [(a 0, .inr (7, [.int (t 0 0), .int (t 0 1), .ref (a 3), .int (t 0 3)])), (a 3, .inl (K 0, 31, .inl (t 3)))]
def wbX5 (K : Nat → ClassId) (a : Nat → Nat) (t : St) : va_W := [(a 0, .inr (5, [.int (t 0 0), .int (t 0 1), .int (t 0 2), .ref (a 4)])), (a 4, .inl (K 0, 60, .inl (t 4)))]
def wbX6 (K : Nat → ClassId) (a : Nat → Nat) (t : St) : va_W := [(a 0, .inr (6, [.int (t 0 0), .ref (a 2), .ref (a 3)])), (a 2, .inl (K 0, 8, .inl (t 2))), (a 3, .inl (K 0, 8, .inl (t 3)))]
def wbX2 (K : Nat → ClassId) (a : Nat → Nat) (t : St) : va_W := [(a 0, .inr (2, [.int (t 0 0), .int (t 0 1), .int (t 0 2), .int (t 0 3), .int (t 0 4), .int (t 0 5), .ref (a 7), .ref (a 8), .ref (a 9), .ref (a 10), .ref (a 11), .ref (a 12), .ref (a 13), .ref (a 14)])), (a 7, .inl (K 0, 8, .inl (t 7))), (a 8, .inl (K 0, 8, .inl (t 8))), (a 9, .inl (K 0, 8, .inl (t 9))), (a 10, .inl (K 0, 8, .inl (t 10))), (a 11, .inl (K 0, 8, .inl (t 11))), (a 12, .inl (K 0, 20, .inl (t 12))), (a 13, .inl (K 0, 10, .inl (t 13))), (a 14, .inl (K 0, 10, .inl (t 14)))]
def wbX4 (K : Nat → ClassId) (bH : Nat) (a : Nat → Nat) (t : St) : va_W := [(a 0, .inr (4, [.ref bH, .ref (a 2), .ref (a 3), .ref (a 4), .ref (a 5), .ref (a 6), .ref (a 7), .ref (a 8), .ref (a 9), .int (t 0 9), .int (t 0 10), .ref (a 12)])), (a 2, .inl (K 0, 45, .inl (t 2))), (a 3, .inl (K 0, 45, .inl (t 3))), (a 4, .inl (K 0, 45, .inl (t 4))), (a 5, .inl (K 0, 45, .inl (t 5))), (a 6, .inl (K 0, 45, .inl (t 6))), (a 7, .inl (K 0, 45, .inl (t 7))), (a 8, .inl (K 0, 45, .inl (t 8))), (a 9, .inl (K 0, 45, .inl (t 9))), (a 12, .inl (K 0, 8, .inl (t 12)))]
def wbX3 (K : Nat → ClassId) (bH : Nat) (bR : Nat) (a : Nat → Nat) (t : St) (u : Lt) : va_W := [(a 0, .inr (3, [.ref bH, .ref bR, .int (t 0 2), .ref (a 4), .ref (a 5), .ref (a 6), .int (t 0 6)])), (a 4, .inl (K 0, 3, .inl (t 4))), (a 5, .inl (K 0, 3, .inl (t 5))), (a 6, .inl (K 1, 211, .inr (.inl (u 6))))]
def wbX0 (K : Nat → ClassId) (bH : Nat) (bR : Nat) (a : Nat → Nat) (t : St) (u : Lt) : va_W := [(a 0, .inr (0, [.ref bH, .ref bR, .int (t 0 2), .ref (a 4), .long (u 0 4), .long (u 0 5)])), (a 4, .inl (K 1, 256, .inr (.inl (u 4))))]
def wbX1 (K : Nat → ClassId) (bH : Nat) (bR : Nat) (bS : Nat) (a : Nat → Nat) (t : St) : va_W := [(a 0, .inr (1, [.ref bH, .ref bR, .ref bS, .ref (a 4)])), (a 4, .inl (K 0, 800, .inl (t 4)))]
def wbX9 (K : Nat → ClassId) (a : Nat → Nat) (t : St) : va_W := [(a 0, .inr (9, [.ref (a 1), .ref (a 2), .int (t 0 2), .ref (a 4), .ref (a 5), .ref (a 6), .int (t 0 6), .ref (a 8), .ref (a 9), .int (t 0 9), .ref (a 11), .int (t 0 11), .int (t 0 12), .int (t 0 13), .ref (a 15), .int (t 0 15), .int (t 0 16), .int (t 0 17), .int (t 0 18), .int (t 0 19), .int (t 0 20), .int (t 0 21), .ref (a 23), .ref (a 24), .ref (a 25), .ref (a 26), .ref (a 27), .ref (a 28), .ref (a 29), .int (t 0 29), .int (t 0 30), .ref (a 32), .ref (a 33), .ref (a 34), .int (t 0 34), .ref (a 36), .ref (a 37), .ref (a 38), .ref (a 39), .ref (a 40), .ref (a 41), .ref (a 42), .ref (a 43), .int (t 0 43)])), (a 1, .inl (K 0, 3, .inl (t 1))), (a 2, .inl (K 0, 93, .inl (t 2))), (a 4, .inl (K 0, 9, .inl (t 4))), (a 5, .inl (K 0, 9, .inl (t 5))), (a 6, .inl (K 0, 9, .inl (t 6))), (a 8, .inl (K 0, 9, .inl (t 8))), (a 9, .inl (K 0, 9, .inl (t 9))), (a 11, .inl (K 0, 20, .inl (t 11))), (a 15, .inl (K 0, 22, .inl (t 15))), (a 23, .inl (K 0, 256, .inl (t 23))), (a 24, .inl (K 0, 256, .inl (t 24))), (a 25, .inl (K 0, 256, .inl (t 25))), (a 26, .inl (K 0, 256, .inl (t 26))), (a 27, .inl (K 0, 8, .inl (t 27))), (a 28, .inl (K 0, 8, .inl (t 28))), (a 29, .inl (K 0, 8, .inl (t 29))), (a 32, .inl (K 0, 8, .inl (t 32))), (a 33, .inl (K 0, 8, .inl (t 33))), (a 34, .inl (K 0, 2, .inl (t 34))), (a 36, .inl (K 0, 8, .inl (t 36))), (a 37, .inl (K 0, 8, .inl (t 37))), (a 38, .inl (K 0, 800, .inl (t 38))), (a 39, .inl (K 2, 4, .inl (t 39))), (a 40, .inl (K 0, 4, .inl (t 40))), (a 41, .inl (K 0, 4, .inl (t 41))), (a 42, .inl (K 0, 240, .inl (t 42))), (a 43, .inl (K 0, 60, .inl (t 43)))]
def wbARR (K : Nat → ClassId) (a : Nat) (n : Nat) (t : Nat → Int32) : va_W := [(a, .inl (K 0, n, .inl t))]
def wbX8 (K : Nat → ClassId) (g : Nat → Nat → Nat) (t : St) : va_W := [(g 0 0, .inr (8, [.ref (g 0 1), .ref (g 0 2), .ref (g 8 0), .ref (g 9 0), .ref (g 10 0), .ref (g 11 0), .ref (g 12 0), .ref (g 13 0), .ref (g 14 0), .int (t 0 9), .int (t 0 10)])), (g 0 1, .inl (K 4, 3, .inr (.inr (.inr (.inr (fun i => some (g (i + 1) 0))))))), (g 0 2, .inl (K 3, 4, .inr (.inr (.inr (.inr (fun i => some (g (i + 4) 0)))))))]
def wbALL (K : Nat → ClassId) (g : Nat → Nat → Nat) (z : Nat → St) (y : Nat → Lt) : va_W := wbX8 K g (z 0) ++ (wbX7 K (g 1) (z 1) ++ (wbX7 K (g 2) (z 2) ++ (wbX7 K (g 3) (z 3) ++ (wbX5 K (g 4) (z 4) ++ (wbX5 K (g 5) (z 5) ++ (wbX5 K (g 6) (z 6) ++ (wbX5 K (g 7) (z 7) ++ (wbX2 K (g 8) (z 8) ++ (wbX4 K (g 8 0) (g 9) (z 9) ++ (wbX4 K (g 8 0) (g 10) (z 10) ++ (wbX3 K (g 8 0) (g 10 0) (g 11) (z 11) (y 11) ++ (wbX0 K (g 8 0) (g 10 0) (g 12) (z 12) (y 12) ++ (wbX6 K (g 13) (z 13) ++ (wbX1 K (g 8 0) (g 10 0) (g 13 0) (g 14) (z 14) ++ ([])))))))))))))))
def bfALL (K : Nat → ClassId) (g : Nat → Nat → Nat) (z : Nat → St) (y : Nat → Lt) : Nat → va_W := fun i => if i = 0 then wbX8 K g (z 0) else if i = 1 then wbX7 K (g 1) (z 1) else if i = 2 then wbX7 K (g 2) (z 2) else if i = 3 then wbX7 K (g 3) (z 3) else if i = 4 then wbX5 K (g 4) (z 4) else if i = 5 then wbX5 K (g 5) (z 5) else if i = 6 then wbX5 K (g 6) (z 6) else if i = 7 then wbX5 K (g 7) (z 7) else if i = 8 then wbX2 K (g 8) (z 8) else if i = 9 then wbX4 K (g 8 0) (g 9) (z 9) else if i = 10 then wbX4 K (g 8 0) (g 10) (z 10) else if i = 11 then wbX3 K (g 8 0) (g 10 0) (g 11) (z 11) (y 11) else if i = 12 then wbX0 K (g 8 0) (g 10 0) (g 12) (z 12) (y 12) else if i = 13 then wbX6 K (g 13) (z 13) else wbX1 K (g 8 0) (g 10 0) (g 13 0) (g 14) (z 14)
theorem wbALL_flat (K : Nat → ClassId) (g : Nat → Nat → Nat) (z : Nat → St) (y : Nat → Lt) : wbALL K g z y = ((List.range 15).map (bfALL K g z y)).flatten := rfl
theorem wbALL_perm {K : Nat → ClassId} {g : Nat → Nat → Nat} {z : Nat → St} {y : Nat → Lt} (js : List Nat) (h : (List.range 15).Perm js) : (wbALL K g z y).Perm ((js.map (bfALL K g z y)).flatten) := by
  rw [wbALL_flat]
  exact (h.map _).flatten
theorem asc2 {a b w : va_W} : (a ++ b) ++ w = a ++ (b ++ w) := List.append_assoc _ _ _
theorem asc3 {a b c w : va_W} : (a ++ (b ++ c)) ++ w = a ++ (b ++ (c ++ w)) := by simp only [List.append_assoc]
theorem asc4 {a b c d w : va_W} : (a ++ (b ++ (c ++ d))) ++ w = a ++ (b ++ (c ++ (d ++ w))) := by simp only [List.append_assoc]
theorem va_P.perm {D : va_G} {ws ws' : va_W} {H : Heap} (h : va_P D vwCl ws H) (p : ws.Perm ws') : va_P D vwCl ws' H := by
  intro k q hk
  obtain ⟨j, hj⟩ := List.mem_iff_getElem?.mp (p.mem_iff.mpr (List.mem_of_getElem? hk))
  exact h j q hj
theorem va_D.pw {A : Nat → Prop} {ws : va_W} (h : va_D A ws) : ws.Pairwise (fun p q => p.1 ≠ q.1) := by
  rw [List.pairwise_iff_getElem]
  intro i j hi hj hij e
  have := h.1 i j ws[i] ws[j] (List.getElem?_eq_getElem hi) (List.getElem?_eq_getElem hj) e
  omega
theorem va_D.perm {A : Nat → Prop} {ws ws' : va_W} (h : va_D A ws) (p : ws.Perm ws') : va_D A ws' := by
  have h1 : ws'.Pairwise (fun p q => p.1 ≠ q.1) := (p.pairwise_iff (fun h => Ne.symm h)).mp h.pw
  refine ⟨fun i j x y hi hj e => ?_, fun k q hk => ?_⟩
  · rw [List.pairwise_iff_getElem] at h1
    obtain ⟨hi1, hi2⟩ := List.getElem?_eq_some_iff.mp hi
    obtain ⟨hj1, hj2⟩ := List.getElem?_eq_some_iff.mp hj
    rcases Nat.lt_trichotomy i j with c | c | c
    · exact absurd (by rw [hi2, hj2]; exact e) (h1 i j hi1 hj1 c)
    · exact c
    · exact absurd (by rw [hi2, hj2]; exact e.symm) (h1 j i hj1 hi1 c)
  · obtain ⟨j, hj⟩ := List.mem_iff_getElem?.mp (p.mem_iff.mpr (List.mem_of_getElem? hk))
    exact h.2 j q hj
theorem zj_perm {D : va_G} {A : Nat → Prop} {ws ws' wc wr w1 : va_W} {H0 H : Heap} {locs : List Loc} (hP : va_P D vwCl ws H) (hD : va_D A ws) (hS : va_S A H0 H locs) (hA : ∀ q, H0.size ≤ q → A q) (h1 : ws.Perm (wc ++ wr)) (h2 : (w1 ++ wr).Perm ws') : zJ D A ws ws' wc w1 H := by
  obtain ⟨a, b⟩ := zj_left (w1 := w1) (hP.perm h1) (hD.perm h1) hS hA
  exact ⟨a, fun H1 k p d => ⟨(b H1 k p d).1.perm h2, (b H1 k p d).2.perm h2⟩⟩
def iX5 : St := fun c => if c = 0 then (fun j => if j = 0 then 1 else 0) else (fun _ => 0)
def iX6 : St := fun c => if c = 0 then (fun j => 0) else (fun _ => 0)
def iX2 : St := fun c => if c = 0 then (fun j => if j = 0 then 4 else if j = 1 then 20 else 0) else (fun _ => 0)
def iX4 : St := fun c => if c = 0 then (fun j => if j = 9 then 1 else 0) else (fun _ => 0)
def iX3 : St := fun c => if c = 0 then (fun j => 0) else (fun _ => 0)
def iX0 : St := fun c => if c = 0 then (fun j => 0) else (fun _ => 0)
def iX1 : St := fun c => if c = 0 then (fun j => 0) else (fun _ => 0)
def iX9 : St := fun c => if c = 0 then (fun j => if j = 11 then 4 else if j = 12 then 20 else 0) else (fun _ => 0)
def iX7 (k m : Int32) : St := fun c => if c = 0 then (fun j => if j = 0 then k else if j = 1 then m else 0) else (fun _ => 0)
def iL0 : Lt := fun _ _ => 0
def iLX0 : Lt := fun c => if c = 0 then (fun j => if j = 5 then 1 else 0) else (fun _ => 0)
def iX8 : St := fun c => if c = 0 then (fun j => if j = 10 then 1 else 0) else (fun _ => 0)
def iZ : Nat → St := fun o => if o = 0 then iX8 else if o = 1 then iX7 0 31 else if o = 2 then iX7 1 31 else if o = 3 then iX7 2 20 else if o = 4 then iX5 else if o = 5 then iX5 else if o = 6 then iX5 else if o = 7 then iX5 else if o = 8 then iX2 else if o = 9 then iX4 else if o = 10 then iX4 else if o = 11 then iX3 else if o = 12 then iX0 else if o = 13 then iX6 else iX1
def iY : Nat → Lt := fun o => if o = 12 then iLX0 else iL0
