/-! ===== pure words: stores, partial steps ===== -/
/-- an object's store: cell 0 its own numbers by slot; cell k + 1 the row that its slot k holds -/
abbrev St : Type := Nat → Nat → Int32
abbrev Lt : Type := Nat → Nat → Int64
def sS (t : St) (c j : Nat) (v : Int32) : St := va_up t c (upd (t c) j v)
def tS (t : Lt) (c j : Nat) (v : Int64) : Lt := va_up t c (vp_updL (t c) j v)
/-- an index as the machine takes it -/
abbrev ix (i : Int32) : Nat := i.toNatClampNeg
def stp {α β : Type} (x : α) (k : α → Option β) : Option β := k x
def chk {β : Type} (i : Int32) (n : Nat) (k : Option β) : Option β := if i < 0 ∨ n ≤ i.toNatClampNeg then none else k
def asr {β : Type} (c : Prop) [Decidable c] (k : Option β) : Option β := if c then k else none
def bd1 {α β : Type} (o : Option α) (k : α → Option β) : Option β := match o with | some a => k a | none => none
def bd2 {α1 α2 β : Type} (o : Option (α1 × α2)) (k : α1 → α2 → Option β) : Option β := match o with | some (a, b) => k a b | none => none
def bd3 {α1 α2 α3 β : Type} (o : Option (α1 × α2 × α3)) (k : α1 → α2 → α3 → Option β) : Option β := match o with | some (a, b, c) => k a b c | none => none
def bd4 {α1 α2 α3 α4 β : Type} (o : Option (α1 × α2 × α3 × α4)) (k : α1 → α2 → α3 → α4 → Option β) : Option β := match o with | some (a, b, c, d) => k a b c d | none => none
theorem stp_e {α β : Type} {x : α} {k : α → Option β} {R : β} (h : stp x k = some R) : ∃ y, y = x ∧ k y = some R := ⟨x, rfl, h⟩
theorem chk_e {β : Type} {i : Int32} {n : Nat} {k : Option β} {R : β} (h : chk i n k = some R) : vp_in i n ∧ k = some R := by
  unfold chk at h
  by_cases c : i < 0 ∨ n ≤ i.toNatClampNeg
  · rw [if_pos c] at h; cases h
  · rw [if_neg c] at h; exact ⟨c, h⟩
theorem asr_e {β : Type} {c : Prop} [Decidable c] {k : Option β} {R : β} (h : asr c k = some R) : c ∧ k = some R := by
  unfold asr at h
  by_cases hc : c
  · rw [if_pos hc] at h; exact ⟨hc, h⟩
  · rw [if_neg hc] at h; cases h
theorem ite_t {β : Type} {c : Prop} [Decidable c] {a b : Option β} {R : β} (h : (if c then a else b) = some R) (hc : c) : a = some R := by rw [if_pos hc] at h; exact h
theorem ite_f {β : Type} {c : Prop} [Decidable c] {a b : Option β} {R : β} (h : (if c then a else b) = some R) (hc : ¬ c) : b = some R := by rw [if_neg hc] at h; exact h
theorem bd1_e {α β : Type} {o : Option α} {k : α → Option β} {R : β} (h : bd1 o k = some R) : ∃ a, o = some a ∧ k a = some R := by
  cases o with
  | none => cases h
  | some a => exact ⟨a, rfl, h⟩
theorem bd2_e {α1 α2 β : Type} {o : Option (α1 × α2)} {k : α1 → α2 → Option β} {R : β} (h : bd2 o k = some R) : ∃ a b, o = some (a, b) ∧ k a b = some R := by
  cases o with
  | none => cases h
  | some a => exact ⟨a.1, a.2, rfl, h⟩
theorem bd3_e {α1 α2 α3 β : Type} {o : Option (α1 × α2 × α3)} {k : α1 → α2 → α3 → Option β} {R : β} (h : bd3 o k = some R) : ∃ a b c, o = some (a, b, c) ∧ k a b c = some R := by
  cases o with
  | none => cases h
  | some a => exact ⟨a.1, a.2.1, a.2.2, rfl, h⟩
theorem bd4_e {α1 α2 α3 α4 β : Type} {o : Option (α1 × α2 × α3 × α4)} {k : α1 → α2 → α3 → α4 → Option β} {R : β} (h : bd4 o k = some R) : ∃ a b c d, o = some (a, b, c, d) ∧ k a b c d = some R := by
  cases o with
  | none => cases h
  | some a => exact ⟨a.1, a.2.1, a.2.2.1, a.2.2.2, rfl, h⟩
theorem z_inj1 {α : Type} {a b : α} (h : some a = some b) : a = b := Option.some.inj h
theorem z_inj2 {α β : Type} {a c : α} {b d : β} (h : some (a, b) = some (c, d)) : a = c ∧ b = d := by cases h; exact ⟨rfl, rfl⟩
theorem z_inj3 {α β γ : Type} {a c : α} {b d : β} {x y : γ} (h : some (a, b, x) = some (c, d, y)) : a = c ∧ b = d ∧ x = y := by cases h; exact ⟨rfl, rfl, rfl⟩
theorem z_inj4 {α β γ δ : Type} {a c : α} {b d : β} {x y : γ} {z w : δ} (h : some (a, b, x, z) = some (c, d, y, w)) : a = c ∧ b = d ∧ x = y ∧ z = w := by cases h; exact ⟨rfl, rfl, rfl, rfl⟩
theorem z_b1 {v : Int32} (h : v &&& 1 = v) : narrow .boolean (.int v) = .int v := by simp [narrow, h]
theorem z_vb1 {v : Int32} (h : v &&& 1 = v) : vp_nar .boolean v = v := by unfold vp_nar; rw [z_b1 h]
/-! ===== the worlds' frame, calls ===== -/
abbrev zTys (K : Nat → ClassId) : List (ClassId × FieldType) := [(K 0, .int), (K 1, .long), (K 2, .boolean), (K 3, .object "LeaversFloor$Sheet"), (K 4, .object "LeaversFloor$Text")]
def zNest : List (String × Nat × MethodName × String) := [("LeaversFloor", 23, yX2_init, "LeaversFloor"), ("LeaversFloor", 58, yX6_init, "LeaversFloor"), ("LeaversFloor", 83, yX5_init, "LeaversFloor"), ("LeaversFloor$Chances", 43, yX8_byteOf, "LeaversFloor"), ("LeaversFloor$Chances", 71, yX8_has, "LeaversFloor"), ("LeaversFloor$Ride", 144, yX8_byteOf, "LeaversFloor"), ("LeaversFloor$Ride", 58, yX8_has, "LeaversFloor"), ("LeaversFloor$Sights", 22, yX8_noSuchStep, "LeaversFloor")]
def zNw (U : State) : Prop := (∀ q ∈ zNest, va_Nw (.methodLinkNest q.1 q.2.1 q.2.2.1 q.2.2.2) U) ∧ va_AO "LeaversFloor$Text" U ∧ va_AO "LeaversFloor$Sheet" U
theorem zNw.warm {s U : State} (hW : s.WarmedH U.vm) (h : zNw s) : zNw U := ⟨fun q hq => va_Nw.warmM hW (h.1 q hq), h.2.1.moved hW.alike, h.2.2.moved hW.alike⟩
theorem zNw.same {s U : State} (hv : s.vm = U.vm) (h : zNw s) : zNw U := ⟨fun q hq => va_Nw.same rfl hv (h.1 q hq), h.2.1.moved (by rw [hv]; exact Vm.Alike.refl _), h.2.2.moved (by rw [hv]; exact Vm.Alike.refl _)⟩
/-- the static row DIGEST_STEPS, at the address K 5 -/
def dstep (j : Nat) : Int32 := if j = 0 then 0 else if j = 1 then 9 else if j = 2 then 20 else 60
def zD (t : Nat) (A : Nat → Prop) (U : State) (H : Heap) : Prop := va_Z "LeaversFloor" "DIGEST_STEPS" "[I" (.ref t) A U H ∧ va_T .int t 4 (fun j => .int (dstep j)) A U H
def zN (K : Nat → ClassId) (A : Nat → Prop) (U : State) : Prop := zNw U ∧ zD (K 5) A U U.heap
theorem zN.at {K : Nat → ClassId} {A B : Nat → Prop} {s U : State} {H : Heap} {locs : List Loc} (h : zN K A s) (hS : va_S A s.heap H locs) (hF : ∀ q : Nat, B q → A q) (hU : U.heap = H) (hW : s.WarmedH U.vm) : zN K B U :=
  ⟨h.1.warm hW, by
    rw [hU]
    exact ⟨((h.2.1.kept hS.2.1).narrow hF).moved hW.alike, ((h.2.2.kept hS.2.1).narrow hF).moved hW.alike⟩⟩
/-- a method's start -/
def zB (D : va_G) (K : Nat → ClassId) (sz : Nat) (ws : va_W) : State → Prop := fun U => U.heap.size = sz ∧ va_P D vwCl ws U.heap ∧ va_K D vwCl (zTys K) U ∧ va_D (fun _ => True) ws ∧ zN K (va_A ws sz) U
/-- a method's end: its answer o, and the world ws -/
def zQ (o : Option Value) (D : va_G) (A : Nat → Prop) (ws : va_W) : Array Value → State → Outcome → State → Prop := fun _ st oc t => (oc = .returned o ∧ va_P D vwCl ws t.heap ∧ va_D A ws) ∧ va_F A st t
theorem zB_blind {D : va_G} {K : Nat → ClassId} {sz : Nat} {ws : va_W} {av : List Value} : FrameBlind (va_Pc av (zB D K sz ws)) := by
  intro a U g mk q
  obtain ⟨q0, q1, qP, qK, qD, qN⟩ := q
  exact ⟨q0, q1, qP, va_K.moved (u := U) (U := U.calling g mk a) (Vm.Alike.refl U.vm) qK, qD, zNw.same (s := U) (U := U.calling g mk a) rfl qN.1, va_Z.moved (u := U) (U := U.calling g mk a) (Vm.Alike.refl U.vm) qN.2.1, va_T.moved (u := U) (U := U.calling g mk a) (Vm.Alike.refl U.vm) qN.2.2⟩
theorem zB_now {D : va_G} {K : Nat → ClassId} {ws : va_W} {av : List Value} {A : Nat → Prop} {s : State} {H : Heap} {locs : List Loc} (hK : va_K D vwCl (zTys K) s) (hN : zN K A s) (hP : va_P D vwCl ws H) (hD : va_D A ws) (hS : va_S A s.heap H locs) (hF : ∀ q : Nat, va_A ws H.size q → A q) : ∀ U : State, U.heap = H → s.WarmedH U.vm → va_Pc av (zB D K H.size ws) av.toArray U :=
  fun U hU hW => ⟨rfl, by rw [hU], by rw [hU]; exact hP, va_K.moved hW.alike hK, hD.weaken (fun _ _ _ _ => trivial), hN.at hS hF hU hW⟩
section ZOF
variable {l : Launch}
theorem z_of {y : MethodName} {Ts Ts' : List Cond} {rm : Room} {cc : ByteArray} {maxL : Nat} {ret : Option FieldType} {D : va_G} {K : Nat → ClassId} {sz : Nat} {w0 : va_W} {av : List Value} {lv : List (Nat × Value)} {Qc : Array Value → State → Outcome → State → Prop} {own : String} {mc ms : Nat}
    (hy : plainName y.cls = true) (hw : Ts = Cond.code y cc maxL ret :: Ts') (ho : y.cls = own) (hlen : (lg_sl av).length ≤ maxL) (hlv : lv_args 0 av = lv)
    (body : ∀ (p : Program) (e : Env) (s : State) (m : MethodId) (below : List Frame) (meth : Method) (c : Code), CallFix p m c cc maxL s av.toArray Ts own → meth.sig.returnType = ret → meth.locks = false → va_K D vwCl (zTys K) s → zN K (va_A w0 sz) s → s.heap.size = sz → va_P D vwCl w0 s.heap → va_D (va_A w0 sz) w0 → (∀ q : Nat, s.heap.size ≤ q → va_A w0 sz q) → va_S (va_A w0 sz) s.heap s.heap [] → (y.name = "<init>" → meth.name = "<init>") → ∀ ls : Array Slot, lv_has ls maxL lv →
      W p l e rm s m av.toArray below meth c s.heap [] 0 0 (MQ below Qc av.toArray s mc ms (va_A w0 sz)) (F0 m 0 ls [])) : Met l y Ts rm (va_Pc av (zB D K sz w0)) Qc mc ms (va_A w0 sz) := by
  refine Met.ofW (cc := cc) (maxL := maxL) (ret := ret) hy hw ?_
  intro p e s m args below meth c s₁ B hml hv
  obtain ⟨rfl, hsz, hP, hK, hD0, hN⟩ := hv
  have hl := lv_entry av (n := maxL) hlen
  rw [hlv] at hl
  rw [lg_entry_eq]
  refine body p e s m below meth c ⟨B.exec, B.bytes, hml, ?_, atoms_spec (ws := Ts) B.pre⟩ B.returns B.notSynchronized hK hN hsz hP hD0.self (fun q h => Or.inr (by rw [← hsz]; exact h)) va_S.rf (fun hn => (name_of_methodNamed B.named B.method).1.trans hn) _ hl
  rw [← ho]
  exact findClass_of_methodNamed B.named
end ZOF
section ZC
variable {p : Program} {l : Launch} {e : Env} {R : Room} {s : State} {m : MethodId} {args : Array Value} {below : List Frame} {meth : Method} {c : Code} {H : Heap} {locs : List Loc} {cells slots : Nat} {Q : State → Prop}
variable {pc : Nat} {ls : Array Slot} {rest st0 st1 : List Value} {D : va_G} {K : Nat → ClassId} {A : Nat → Prop} {H0 : Heap} {cc : ByteArray} {nL : Nat} {Ts : List Cond} {own : String}
/-- how a caller's world ws becomes ws' by a call that makes w1 of wc -/
def zJ (D : va_G) (A : Nat → Prop) (ws ws' wc w1 : va_W) (H : Heap) : Prop := (∀ q : Nat, va_A wc H.size q → A q) ∧ ∀ H1 : Heap, (∀ q : Nat, q < H.size → ¬ va_A wc H.size q → H1[q]? = H[q]?) → va_P D vwCl w1 H1 → va_D (va_A wc H.size) w1 → va_P D vwCl ws' H1 ∧ va_D A ws'
theorem zj_same {wc w1 : va_W} (hD : va_D A wc) (hS : va_S A H0 H locs) (hA : ∀ q, H0.size ≤ q → A q) : zJ D A wc w1 wc w1 H := by
  have hF : ∀ q : Nat, va_A wc H.size q → A q := by
    intro q h
    rcases h with ⟨k, e, h⟩ | h
    · exact hD.2 k (q, e) h
    · exact hA q (Nat.le_trans hS.1 h)
  exact ⟨hF, fun H1 _ hP1 hD1 => ⟨hP1, hD1.weaken (fun _ q _ h => hF q.1 h)⟩⟩
theorem zj_none {ws : va_W} (hP : va_P D vwCl ws H) (hD : va_D A ws) (hS : va_S A H0 H locs) (hA : ∀ q, H0.size ≤ q → A q) : zJ D A ws ws [] [] H := by
  have hF : ∀ q : Nat, va_A [] H.size q → A q := by
    intro q h
    rcases h with ⟨k, e, h⟩ | h
    · simp at h
    · exact hA q (Nat.le_trans hS.1 h)
  refine ⟨hF, fun H1 hk _ _ => ⟨hP.kept (fun k q hq => hk q.1 (hP k q hq).lt (fun h => ?_)), hD⟩⟩
  rcases h with ⟨k2, e, h⟩ | h
  · simp at h
  · exact absurd (hP k q hq).lt (Nat.not_lt.mpr h)
theorem zj_sub {ws ws' wc w1 : va_W} (hP : va_P D vwCl ws H) (hD : va_D A ws) (hS : va_S A H0 H locs) (hA : ∀ q, H0.size ≤ q → A q) (isC isR pm : List Nat) (hC : isC.map (fun i => ws[i]?) = wc.map some) (hR : isR.map (fun i => ws[i]?) = (isR.filterMap (fun i => ws[i]?)).map some) (hn : va_nd isR = true) (hdis : ∀ i ∈ isR, i ∉ isC) (hpm : va_nd pm = true) (hw : pm.map (fun i => (isR.filterMap (fun i => ws[i]?) ++ w1)[i]?) = ws'.map some) : zJ D A ws ws' wc w1 H := by
  obtain ⟨wr, ewr⟩ : ∃ x, x = isR.filterMap (fun i => ws[i]?) := ⟨_, rfl⟩
  rw [← ewr] at hR hw
  have hF := va_free (wc := wc) hD hS hA isC hC
  refine ⟨hF, fun H1 hk hP1 hD1 => ?_⟩
  obtain ⟨g1, g2⟩ := va_join hP hD isC isR hC hR hn hdis hk hF hP1 hD1
  refine ⟨fun k q hq => ?_, g2.sub pm hpm hw⟩
  have h1 : (pm.map (fun i => (wr ++ w1)[i]?))[k]? = some (some q) := by rw [hw, List.getElem?_map, hq]; rfl
  rw [List.getElem?_map] at h1
  cases hi : pm[k]? with
  | none => rw [hi] at h1; cases h1
  | some i => rw [hi] at h1; exact g1 i q (Option.some.inj h1)
theorem z_apartL {wc wr : va_W} (hP : va_P D vwCl (wc ++ wr) H) (hD : va_D A (wc ++ wr)) (k : Nat) (q : Nat × va_E) (hk : wr[k]? = some q) : q.1 < H.size ∧ ¬ va_A wc H.size q.1 := by
  have h1 : (wc ++ wr)[wc.length + k]? = some q := by rw [List.getElem?_append_right (Nat.le_add_right _ _), Nat.add_sub_cancel_left]; exact hk
  have hl := (hP _ _ h1).lt
  refine ⟨hl, fun h => ?_⟩
  rcases h with ⟨k2, e, h⟩ | h
  · have h2 : (wc ++ wr)[k2]? = some (q.1, e) := by rw [List.getElem?_append_left (List.getElem?_eq_some_iff.mp h).1]; exact h
    have h3 := hD.1 _ _ _ _ h1 h2 rfl
    have h4 := (List.getElem?_eq_some_iff.mp h).1
    omega
  · omega
theorem z_apartR {wc wr : va_W} (hP : va_P D vwCl (wr ++ wc) H) (hD : va_D A (wr ++ wc)) (k : Nat) (q : Nat × va_E) (hk : wr[k]? = some q) : q.1 < H.size ∧ ¬ va_A wc H.size q.1 := by
  have hl0 := (List.getElem?_eq_some_iff.mp hk).1
  have h1 : (wr ++ wc)[k]? = some q := by rw [List.getElem?_append_left hl0]; exact hk
  have hl := (hP _ _ h1).lt
  refine ⟨hl, fun h => ?_⟩
  rcases h with ⟨k2, e, h⟩ | h
  · have h2 : (wr ++ wc)[wr.length + k2]? = some (q.1, e) := by rw [List.getElem?_append_right (Nat.le_add_right _ _), Nat.add_sub_cancel_left]; exact h
    have h3 := hD.1 _ _ _ _ h1 h2 rfl
    omega
  · omega
theorem va_P.lef {w1 w2 : va_W} (h : va_P D vwCl (w1 ++ w2) H) : va_P D vwCl w1 H := fun k q hk => h k q (by rw [List.getElem?_append_left (List.getElem?_eq_some_iff.mp hk).1]; exact hk)
theorem va_P.rig {w1 w2 : va_W} (h : va_P D vwCl (w1 ++ w2) H) : va_P D vwCl w2 H := fun k q hk => h (w1.length + k) q (by rw [List.getElem?_append_right (Nat.le_add_right _ _), Nat.add_sub_cancel_left]; exact hk)
theorem va_D.lef {w1 w2 : va_W} (h : va_D A (w1 ++ w2)) : va_D A w1 := ⟨fun i j x y hi hj e => h.1 i j x y (by rw [List.getElem?_append_left (List.getElem?_eq_some_iff.mp hi).1]; exact hi) (by rw [List.getElem?_append_left (List.getElem?_eq_some_iff.mp hj).1]; exact hj) e, fun k q hk => h.2 k q (by rw [List.getElem?_append_left (List.getElem?_eq_some_iff.mp hk).1]; exact hk)⟩
theorem va_D.rig {w1 w2 : va_W} (h : va_D A (w1 ++ w2)) : va_D A w2 := ⟨fun i j x y hi hj e => by
    have h3 := h.1 (w1.length + i) (w1.length + j) x y (by rw [List.getElem?_append_right (Nat.le_add_right _ _), Nat.add_sub_cancel_left]; exact hi) (by rw [List.getElem?_append_right (Nat.le_add_right _ _), Nat.add_sub_cancel_left]; exact hj) e
    omega, fun k q hk => h.2 (w1.length + k) q (by rw [List.getElem?_append_right (Nat.le_add_right _ _), Nat.add_sub_cancel_left]; exact hk)⟩
theorem zj_left {wc wr w1 : va_W} (hP : va_P D vwCl (wc ++ wr) H) (hD : va_D A (wc ++ wr)) (hS : va_S A H0 H locs) (hA : ∀ q, H0.size ≤ q → A q) : zJ D A (wc ++ wr) (w1 ++ wr) wc w1 H := by
  have hF : ∀ q : Nat, va_A wc H.size q → A q := by
    intro q h
    rcases h with ⟨k, e, h⟩ | h
    · exact hD.lef.2 k (q, e) h
    · exact hA q (Nat.le_trans hS.1 h)
  refine ⟨hF, fun H1 hk hP1 hD1 => ⟨va_P.app hP1 (fun k q hq => (hP.rig k q hq).kept (hk q.1 (z_apartL hP hD k q hq).1 (z_apartL hP hD k q hq).2)), va_D.app (hD1.weaken (fun k q _ h => hF q.1 h)) hD.rig (fun i j x y hx hy e => ?_)⟩⟩
  exact (z_apartL hP hD j y hy).2 (by rw [← e]; exact hD1.2 i x hx)
theorem zj_right {wc wr w1 : va_W} (hP : va_P D vwCl (wr ++ wc) H) (hD : va_D A (wr ++ wc)) (hS : va_S A H0 H locs) (hA : ∀ q, H0.size ≤ q → A q) : zJ D A (wr ++ wc) (wr ++ w1) wc w1 H := by
  have hF : ∀ q : Nat, va_A wc H.size q → A q := by
    intro q h
    rcases h with ⟨k, e, h⟩ | h
    · exact hD.rig.2 k (q, e) h
    · exact hA q (Nat.le_trans hS.1 h)
  refine ⟨hF, fun H1 hk hP1 hD1 => ⟨va_P.app (fun k q hq => (hP.lef k q hq).kept (hk q.1 (z_apartR hP hD k q hq).1 (z_apartR hP hD k q hq).2)) hP1, va_D.app hD.lef (hD1.weaken (fun k q _ h => hF q.1 h)) (fun i j x y hx hy e => ?_)⟩⟩
  exact (z_apartR hP hD i x hx).2 (by rw [e]; exact hD1.2 j y hy)
theorem z_run {ws' wc w1 ws : va_W} {o : Option Value} {a : Array Value} (hr : va_Run p l e R s m args below meth c H locs cells slots 0 0 (F0 m pc ls st0) rest (zQ o D (va_A wc H.size) w1 a) (va_A wc H.size)) (hJ : zJ D A ws ws' wc w1 H) (hS : va_S A H0 H locs) (hst : o.toList ++ rest = st1)
    (kk : ∀ (H1 : Heap) (locs1 : List Loc), va_P D vwCl ws' H1 → va_D A ws' → va_S A H0 H1 locs1 → W p l e R s m args below meth c H1 locs1 cells slots Q (F0 m (pc + 3) ls st1)) : W p l e R s m args below meth c H locs cells slots Q (F0 m pc ls st0) := by
  intro T hT X
  obtain ⟨v, st₀, t, T', L, h0, X', hL, e1, e2, ⟨⟨hv, hp, hd⟩, hz, hk⟩, st⟩ := hr T hT X
  cases hv
  rw [h0] at hz hk
  obtain ⟨gP, gD⟩ := hJ.2 t.heap hk hp hd
  subst hst
  obtain ⟨t2, a1, b1⟩ := kk t.heap (locs ++ L) gP gD
    ⟨Nat.le_trans hS.1 hz, fun q h1 h2 => by rw [hk q (Nat.lt_of_lt_of_le h1 hS.1) (fun z => h2 (hJ.1 q z))]; exact hS.2.1 q h1 h2, fun q hq => by
      rcases List.mem_append.mp hq with h | h
      · exact hS.2.2 q h
      · exact hJ.1 _ (hL q h)⟩ T' e1 X'
  exact ⟨t2, st t2 a1, b1⟩
variable {y : MethodName} {bytes : ByteArray} {maxL n index : Nat} {ret : Option FieldType} {wsy wsy' : List Cond} {rm : Room} {C host : String} {b : Nat} {As : List Value} {ws ws' wc w1 : va_W} {o : Option Value}
theorem z_V (X : CallFix p m c cc nL s args Ts own) (hK : va_K D vwCl (zTys K) s) (hN : zN K A s) (hM : Met l y wsy rm (va_Pc (.ref b :: As) (zB D K H.size wc)) (zQ o D (va_A wc H.size) w1) 0 0 (va_A wc H.size)) (hG : GoodIn Ts (wsV own index C y wsy)) (hw : wsy = Cond.code y bytes maxL ret :: wsy') (hrc : rm.cells = 0 ∧ rm.slots = 0)
    (hd : y.cls = C ∧ y.cls ≠ "java/lang/invoke/MethodHandle" ∧ y.cls ≠ "java/lang/invoke/VarHandle" ∧ (parseMethodDescriptor y.desc).map (fun d => d.parameters.length) = some n) (hna : As.length = n) (hR : rm.frames + 1 ≤ R.frames ∧ 8 + (maxL + 11) + rm.locals ≤ R.locals)
    (hPc : va_P D vwCl wc H) (hDc : va_D A wc) {ci q0 N : Nat} {T : u_T} {fs : List Value} (hc : vwCl[ci]? = some (C, T, N)) (he : wc[q0]? = some (b, .inr (ci, fs))) (hJ : zJ D A ws ws' wc w1 H) (hS : va_S A s.heap H locs) (hl : ls.size = nL) (hs0 : st0 = As.reverse ++ .ref b :: rest) (hrm : (rest.map fun v => v.category).sum ≤ 8) (hdg : decode cc pc = .ok (.invokevirtual index, 3)) (hf : cells ≤ R.cells ∧ slots ≤ R.slots) (hst : o.toList ++ rest = st1)
    (kk : ∀ (H1 : Heap) (locs1 : List Loc), va_P D vwCl ws' H1 → va_D A ws' → va_S A s.heap H1 locs1 → W p l e R s m args below meth c H1 locs1 cells slots Q (F0 m (pc + 3) ls st1)) : W p l e R s m args below meth c H locs cells slots Q (F0 m pc ls st0) :=
  z_run (va_runV (As := As) (rest := rest) (b := b) X hM (cwV n X.2.2.2.2 hG hw hrc.1 hrc.2 hd hR) ⟨zB_blind, va_recv hK hPc hc he, zB_now hK hN hPc hDc hS hJ.1⟩ rfl hna hl hs0 (lv_room hrm) hdg hf) hJ hS hst kk
theorem z_S (X : CallFix p m c cc nL s args Ts own) (hK : va_K D vwCl (zTys K) s) (hN : zN K A s) (hM : Met l y wsy rm (va_Pc As (zB D K H.size wc)) (zQ o D (va_A wc H.size) w1) 0 0 (va_A wc H.size)) (hG : GoodIn Ts (va_wsS own index y wsy)) (hw : wsy = Cond.code y bytes maxL ret :: wsy') (hrc : rm.cells = 0 ∧ rm.slots = 0)
    (hd : y.cls ≠ "java/lang/invoke/MethodHandle" ∧ y.cls ≠ "java/lang/invoke/VarHandle" ∧ (parseMethodDescriptor y.desc).map (fun d => d.parameters.length) = some n) (hna : As.length = n) (hR : rm.frames + 1 ≤ R.frames ∧ 8 + (maxL + 11) + rm.locals ≤ R.locals)
    (hPc : va_P D vwCl wc H) (hDc : va_D A wc) (hJ : zJ D A ws ws' wc w1 H) (hS : va_S A s.heap H locs) (hl : ls.size = nL) (hs0 : st0 = As.reverse ++ rest) (hrm : (rest.map fun v => v.category).sum ≤ 8) (hdg : decode cc pc = .ok (.invokestatic index, 3)) (hf : cells ≤ R.cells ∧ slots ≤ R.slots) (hst : o.toList ++ rest = st1)
    (kk : ∀ (H1 : Heap) (locs1 : List Loc), va_P D vwCl ws' H1 → va_D A ws' → va_S A s.heap H1 locs1 → W p l e R s m args below meth c H1 locs1 cells slots Q (F0 m (pc + 3) ls st1)) : W p l e R s m args below meth c H locs cells slots Q (F0 m pc ls st0) := by
  have ok : ∀ w ∈ va_wsS own index y wsy, w.before args s = true := fun w h => X.2.2.2.2 w (hG w h).1
  exact z_run (va_runS (As := As) (rest := rest) X hM ⟨callB_of n X.2.2.2.2 (fun w h => hG w (by unfold va_wsS; exact List.mem_append_right _ h)) hw hrc.1 hrc.2 (ok _ (by simp [va_wsS])) (ok _ (by simp [va_wsS])) hd hR, ok _ (by simp [va_wsS])⟩ ⟨zB_blind, zB_now hK hN hPc hDc hS hJ.1⟩ rfl hna hl hs0 (lv_room hrm) hdg hf) hJ hS hst kk
theorem z_SN (X : CallFix p m c cc nL s args Ts own) (hK : va_K D vwCl (zTys K) s) (hN : zN K A s) (hM : Met l y wsy rm (va_Pc As (zB D K H.size wc)) (zQ o D (va_A wc H.size) w1) 0 0 (va_A wc H.size)) (hG : GoodIn Ts wsy) (hl0 : (own, index, y, host) ∈ zNest) (hi : Cond.initialized y.cls ∈ Ts) (hst0 : Cond.static y ∈ Ts) (hw : wsy = Cond.code y bytes maxL ret :: wsy') (hrc : rm.cells = 0 ∧ rm.slots = 0)
    (hd : y.cls ≠ "java/lang/invoke/MethodHandle" ∧ y.cls ≠ "java/lang/invoke/VarHandle" ∧ (parseMethodDescriptor y.desc).map (fun d => d.parameters.length) = some n) (hna : As.length = n) (hR : rm.frames + 1 ≤ R.frames ∧ 8 + (maxL + 11) + rm.locals ≤ R.locals)
    (hPc : va_P D vwCl wc H) (hDc : va_D A wc) (hJ : zJ D A ws ws' wc w1 H) (hS : va_S A s.heap H locs) (hl : ls.size = nL) (hs0 : st0 = As.reverse ++ rest) (hrm : (rest.map fun v => v.category).sum ≤ 8) (hdg : decode cc pc = .ok (.invokestatic index, 3)) (hf : cells ≤ R.cells ∧ slots ≤ R.slots) (hst : o.toList ++ rest = st1)
    (kk : ∀ (H1 : Heap) (locs1 : List Loc), va_P D vwCl ws' H1 → va_D A ws' → va_S A s.heap H1 locs1 → W p l e R s m args below meth c H1 locs1 cells slots Q (F0 m (pc + 3) ls st1)) : W p l e R s m args below meth c H locs cells slots Q (F0 m pc ls st0) :=
  z_run (va_runSN (As := As) (rest := rest) X hM ⟨va_cnB n X.2.2.2.2 hG hw hrc.1 hrc.2 (hN.1.1 _ hl0) (X.2.2.2.2 _ hi) hd hR, X.2.2.2.2 _ hst0, trivial⟩ ⟨zB_blind, zB_now hK hN hPc hDc hS hJ.1⟩ rfl hna hl hs0 (lv_room hrm) hdg hf) hJ hS hst kk
/-! rows of memory, in the form that a program lays -/
theorem z_get (X : CallFix p m c cc nL s args Ts own) (hK : va_K D vwCl (zTys K) s) (hP : va_P D vwCl ws H) {T : u_T} {N ci : Nat} (hin : ∀ w ∈ u_ws C T N, w ∈ Ts) {a : Nat} (q0 : Nat) {fs : List Value} (he : ws[q0]? = some (a, .inr (ci, fs))) (hc : vwCl[ci]? = some (C, T, N)) (k : Nat) (hk : k < N) (hlink : Cond.fieldLink own index (T k).1 (T k).2.1 (T k).2.2.1 ∈ Ts) {v : Value} (hv : fs[k]? = some v) (hdg : decode cc pc = .ok (.getfield index, 3))
    (kk : W p l e R s m args below meth c H locs cells slots Q (F0 m (pc + 3) ls (v :: rest))) : W p l e R s m args below meth c H locs cells slots Q (F0 m pc ls (.ref a :: rest)) :=
  va_get X.1 X.2.1 X.2.2.2.2 hin X.2.2.2.1 hK hP q0 he hc k hk (X.2.2.2.2 _ hlink) (fun _ h => h) hv hdg kk
theorem z_put (X : CallFix p m c cc nL s args Ts own) (hK : va_K D vwCl (zTys K) s) (hP : va_P D vwCl ws H) (hD : va_D A ws) (hS : va_S A H0 H locs) {T : u_T} {N ci : Nat} (hin : ∀ w ∈ u_ws C T N, w ∈ Ts) {ty0 : Nat → FieldType} (hty : ∀ k, k < N → parseFieldDescriptor (T k).2.2.1 = some (ty0 k)) (hnm : ∀ a, a < N → ∀ b, b < N → a ≠ b → (T a).2.1 ≠ (T b).2.1) {a : Nat} (q0 : Nat) {fs : List Value} (he : ws[q0]? = some (a, .inr (ci, fs))) (hc : vwCl[ci]? = some (C, T, N)) (k : Nat) (hk : k < N) (hlink : Cond.fieldLink own index (T k).1 (T k).2.1 (T k).2.2.1 ∈ Ts) (hfin : (T k).2.2.2 = false) {v : Value} (hn : narrow (ty0 k) v = v) (hfit : fits (ty0 k) v = true) (hl : k < fs.length) (hdg : decode cc pc = .ok (.putfield index, 3)) (hw : ws.set q0 (a, .inr (ci, fs.set k v)) = ws')
    (kk : ∀ (H1 : Heap) (locs1 : List Loc), va_P D vwCl ws' H1 → va_D A ws' → va_S A H0 H1 locs1 → W p l e R s m args below meth c H1 locs1 cells slots Q (F0 m (pc + 3) ls rest)) : W p l e R s m args below meth c H locs cells slots Q (F0 m pc ls (v :: .ref a :: rest)) := by
  subst hw
  exact va_put X.1 X.2.1 X.2.2.2.2 hin ty0 hty hnm X.2.2.2.1 hK hP hD hS q0 he hc k hk (X.2.2.2.2 _ hlink) (fun _ h => h) hfin (hty k hk) hn hfit hl hdg kk
theorem z_iald (X : CallFix p m c cc nL s args Ts own) (hK : va_K D vwCl (zTys K) s) (hP : va_P D vwCl ws H) {a : Nat} (q0 : Nat) {n : Nat} {f : Nat → Int32} (ha : ws[q0]? = some (a, .inl (K 0, n, .inl f))) {i v : Int32} (hin : vp_in i n) (hv : v = f (ix i)) (hdg : decode cc pc = .ok (.iaload, 1))
    (kk : W p l e R s m args below meth c H locs cells slots Q (F0 m (pc + 1) ls (.int v :: rest))) : W p l e R s m args below meth c H locs cells slots Q (F0 m pc ls (.int i :: .ref a :: rest)) := by
  subst hv
  exact va_iald X.1 X.2.1 hK hP q0 0 ha rfl hin hdg kk
theorem z_zald (X : CallFix p m c cc nL s args Ts own) (hK : va_K D vwCl (zTys K) s) (hP : va_P D vwCl ws H) {a : Nat} (q0 : Nat) {n : Nat} {f : Nat → Int32} (ha : ws[q0]? = some (a, .inl (K 2, n, .inl f))) {i v : Int32} (hin : vp_in i n) (hv : v = f (ix i)) (hdg : decode cc pc = .ok (.baload, 1))
    (kk : W p l e R s m args below meth c H locs cells slots Q (F0 m (pc + 1) ls (.int v :: rest))) : W p l e R s m args below meth c H locs cells slots Q (F0 m pc ls (.int i :: .ref a :: rest)) := by
  subst hv
  exact va_zald X.1 X.2.1 hK hP q0 2 ha rfl hin hdg kk
theorem z_lald (X : CallFix p m c cc nL s args Ts own) (hK : va_K D vwCl (zTys K) s) (hP : va_P D vwCl ws H) {a : Nat} (q0 : Nat) {n : Nat} {f : Nat → Int64} (ha : ws[q0]? = some (a, .inl (K 1, n, .inr (.inl f)))) {i : Int32} {v : Int64} (hin : vp_in i n) (hv : v = f (ix i)) (hdg : decode cc pc = .ok (.laload, 1))
    (kk : W p l e R s m args below meth c H locs cells slots Q (F0 m (pc + 1) ls (.long v :: rest))) : W p l e R s m args below meth c H locs cells slots Q (F0 m pc ls (.int i :: .ref a :: rest)) := by
  subst hv
  exact va_lald X.1 X.2.1 hK hP q0 1 ha rfl hin hdg kk
theorem z_iast (X : CallFix p m c cc nL s args Ts own) (hK : va_K D vwCl (zTys K) s) (hP : va_P D vwCl ws H) (hD : va_D A ws) (hS : va_S A H0 H locs) {a : Nat} (q0 : Nat) {n : Nat} {f : Nat → Int32} (ha : ws[q0]? = some (a, .inl (K 0, n, .inl f))) {i x : Int32} (hin : vp_in i n) (hdg : decode cc pc = .ok (.iastore, 1)) (hw : ws.set q0 (a, .inl (K 0, n, .inl (upd f (ix i) x))) = ws')
    (kk : ∀ (H1 : Heap) (locs1 : List Loc), va_P D vwCl ws' H1 → va_D A ws' → va_S A H0 H1 locs1 → W p l e R s m args below meth c H1 locs1 cells slots Q (F0 m (pc + 1) ls rest)) : W p l e R s m args below meth c H locs cells slots Q (F0 m pc ls (.int x :: .int i :: .ref a :: rest)) := by
  subst hw
  exact va_iast X.1 X.2.1 hK hP hD hS q0 0 ha rfl hin hdg kk
theorem z_zast (X : CallFix p m c cc nL s args Ts own) (hK : va_K D vwCl (zTys K) s) (hP : va_P D vwCl ws H) (hD : va_D A ws) (hS : va_S A H0 H locs) {a : Nat} (q0 : Nat) {n : Nat} {f : Nat → Int32} (ha : ws[q0]? = some (a, .inl (K 2, n, .inl f))) {i x : Int32} (hx1 : x &&& 1 = x) (hin : vp_in i n) (hdg : decode cc pc = .ok (.bastore, 1)) (hw : ws.set q0 (a, .inl (K 2, n, .inl (upd f (ix i) x))) = ws')
    (kk : ∀ (H1 : Heap) (locs1 : List Loc), va_P D vwCl ws' H1 → va_D A ws' → va_S A H0 H1 locs1 → W p l e R s m args below meth c H1 locs1 cells slots Q (F0 m (pc + 1) ls rest)) : W p l e R s m args below meth c H locs cells slots Q (F0 m pc ls (.int x :: .int i :: .ref a :: rest)) := by
  subst hw
  refine va_zast X.1 X.2.1 hK hP hD hS q0 2 ha rfl hin hdg ?_
  rw [z_vb1 hx1]
  exact kk
theorem z_last (X : CallFix p m c cc nL s args Ts own) (hK : va_K D vwCl (zTys K) s) (hP : va_P D vwCl ws H) (hD : va_D A ws) (hS : va_S A H0 H locs) {a : Nat} (q0 : Nat) {n : Nat} {f : Nat → Int64} (ha : ws[q0]? = some (a, .inl (K 1, n, .inr (.inl f)))) {i : Int32} {x : Int64} (hin : vp_in i n) (hdg : decode cc pc = .ok (.lastore, 1)) (hw : ws.set q0 (a, .inl (K 1, n, .inr (.inl (vp_updL f (ix i) x)))) = ws')
    (kk : ∀ (H1 : Heap) (locs1 : List Loc), va_P D vwCl ws' H1 → va_D A ws' → va_S A H0 H1 locs1 → W p l e R s m args below meth c H1 locs1 cells slots Q (F0 m (pc + 1) ls rest)) : W p l e R s m args below meth c H locs cells slots Q (F0 m pc ls (.long x :: .int i :: .ref a :: rest)) := by
  subst hw
  exact va_last X.1 X.2.1 hK hP hD hS q0 1 ha rfl hin hdg kk
theorem z_alen (X : CallFix p m c cc nL s args Ts own) (hK : va_K D vwCl (zTys K) s) (hP : va_P D vwCl ws H) {a : Nat} (q0 t0 : Nat) {cA : ClassId} {x : vp_A} (ha : ws[q0]? = some (a, .inl (cA, x))) {ty : FieldType} (ht : (zTys K)[t0]? = some (cA, ty)) {v : Int32} (hv : Int32.ofNat x.1 = v) (hdg : decode cc pc = .ok (.arraylength, 1))
    (kk : W p l e R s m args below meth c H locs cells slots Q (F0 m (pc + 1) ls (.int v :: rest))) : W p l e R s m args below meth c H locs cells slots Q (F0 m pc ls (.ref a :: rest)) :=
  va_alen X.1 X.2.1 hK hP q0 t0 ha ht hv hdg kk
theorem z_aald (X : CallFix p m c cc nL s args Ts own) (hK : va_K D vwCl (zTys K) s) (hP : va_P D vwCl ws H) {a : Nat} (q0 t0 : Nat) {cA : ClassId} {C0 : String} {n : Nat} {f : Nat → Option Nat} (ha : ws[q0]? = some (a, .inl (cA, n, .inr (.inr (.inr (.inr f)))))) (ht : (zTys K)[t0]? = some (cA, .object C0)) {i : Int32} {b0 : Nat} (hin : vp_in i n) (hv : f (ix i) = some b0) (hdg : decode cc pc = .ok (.aaload, 1))
    (kk : W p l e R s m args below meth c H locs cells slots Q (F0 m (pc + 1) ls (.ref b0 :: rest))) : W p l e R s m args below meth c H locs cells slots Q (F0 m pc ls (.int i :: .ref a :: rest)) := by
  refine va_aldq X.1 X.2.1 hK hP q0 t0 ha ht hin hdg ?_
  show W p l e R s m args below meth c H locs cells slots Q (F0 m (pc + 1) ls (va_rf (f (ix i)) :: rest))
  rw [hv]
  exact kk
theorem z_top {x y : Int32} (h : y = x) (kk : W p l e R s m args below meth c H locs cells slots Q (F0 m pc ls (.int y :: rest))) : W p l e R s m args below meth c H locs cells slots Q (F0 m pc ls (.int x :: rest)) := by
  subst h; exact kk
theorem z_topl {x y : Int64} (h : y = x) (kk : W p l e R s m args below meth c H locs cells slots Q (F0 m pc ls (.long y :: rest))) : W p l e R s m args below meth c H locs cells slots Q (F0 m pc ls (.long x :: rest)) := by
  subst h; exact kk
theorem z_acopy (X : CallFix p m c cc nL s args Ts own) (hK : va_K D vwCl (zTys K) s) (hP : va_P D vwCl ws H) (hD : va_D A ws) (hS : va_S A H0 H locs) (h1 : Cond.methodLink own index arraycopyName ∈ Ts) (h2 : Cond.native arraycopyName ∈ Ts) (h3 : Cond.static arraycopyName ∈ Ts) (h4 : Cond.initialized "java/lang/System" ∈ Ts) (hls : ls.size = nL) (q0 q1 : Nat) {a0 a : Nat} {n0 n1 : Nat} {f g : Nat → Int32} (ha0 : ws[q0]? = some (a0, .inl (K 0, n0, .inl f))) (ha1 : ws[q1]? = some (a, .inl (K 0, n1, .inl g))) {sp dp n : Int32} (g1 : ¬ sp < 0) (g2 : ¬ dp < 0) (g3 : ¬ n < 0) (g4 : ix sp + ix n ≤ n0) (g5 : ix dp + ix n ≤ n1)
    (hframes : 1 ≤ R.frames) (hlocals : (rest.map fun v => v.category).sum + (nativeFrameWords "java/lang/System" "arraycopy" 5 + 11) ≤ R.locals) (hdg : decode cc pc = .ok (.invokestatic index, 3)) (hw : ws.set q1 (a, .inl (K 0, n1, .inl (va_cpy f g (ix sp) (ix dp) (ix n)))) = ws')
    (kk : ∀ (H1 : Heap) (locs1 : List Loc), va_P D vwCl ws' H1 → va_D A ws' → va_S A H0 H1 locs1 → W p l e R s m args below meth c H1 locs1 cells slots Q (F0 m (pc + 3) ls rest)) : W p l e R s m args below meth c H locs cells slots Q (F0 m pc ls (.int n :: .int dp :: .ref a :: .int sp :: .ref a0 :: rest)) := by
  subst hw
  exact va_copyi X.1 X.2.1 (X.2.2.1.trans hls.symm) X.2.2.2.1 (X.2.2.2.2 _ h1) (X.2.2.2.2 _ h2) (X.2.2.2.2 _ h3) (X.2.2.2.2 _ h4) hK hP hD hS q0 q1 0 0 ha0 ha1 rfl rfl rfl g1 g2 g3 g4 g5 (fun _ _ => rfl) hframes hlocals hdg kk
theorem z_putF (X : CallFix p m c cc nL s args Ts own) (hin2 : meth.name = "<init>") (hK : va_K D vwCl (zTys K) s) (hP : va_P D vwCl ws H) (hD : va_D A ws) (hS : va_S A H0 H locs) {T : u_T} {N ci : Nat} (hin : ∀ w ∈ u_ws C T N, w ∈ Ts) {ty0 : Nat → FieldType} (hty : ∀ k, k < N → parseFieldDescriptor (T k).2.2.1 = some (ty0 k)) (hnm : ∀ a, a < N → ∀ b, b < N → a ≠ b → (T a).2.1 ≠ (T b).2.1) {a : Nat} (q0 : Nat) {fs : List Value} (he : ws[q0]? = some (a, .inr (ci, fs))) (hc : vwCl[ci]? = some (C, T, N)) (k : Nat) (hk : k < N) (hlink : Cond.fieldLink own index (T k).1 (T k).2.1 (T k).2.2.1 ∈ Ts) (hfin : (T k).2.2.2 = true) (hdc : (T k).1 = own) {v : Value} (hn : narrow (ty0 k) v = v) (hfit : fits (ty0 k) v = true) (hl : k < fs.length) (hdg : decode cc pc = .ok (.putfield index, 3)) (hw : ws.set q0 (a, .inr (ci, fs.set k v)) = ws')
    (kk : ∀ (H1 : Heap) (locs1 : List Loc), va_P D vwCl ws' H1 → va_D A ws' → va_S A H0 H1 locs1 → W p l e R s m args below meth c H1 locs1 cells slots Q (F0 m (pc + 3) ls rest)) : W p l e R s m args below meth c H locs cells slots Q (F0 m pc ls (v :: .ref a :: rest)) := by
  subst hw
  exact va_putF X.1 X.2.1 X.2.2.2.2 hin ty0 hty hnm X.2.2.2.1 hK hP hD hS q0 he hc k hk (X.2.2.2.2 _ hlink) (fun _ h => h) hfin hin2 hdc (hty k hk) hn hfit hl hdg kk
theorem z_sameA {cA cB : ClassId} {ty : FieldType} {k : Nat} {tys : List (ClassId × FieldType)} (hty : ty = .int ∨ ty = .long ∨ ty = .boolean) (hK : va_K D vwCl (tys ++ [(cA, ty)]) s) (hk : tys[k]? = some (cB, ty)) : cA = cB := by
  have h1 := (hK.2 tys.length (cA, ty) (by simp)).2
  have h2 := (hK.2 k (cB, ty) (by rw [List.getElem?_append_left (List.getElem?_eq_some_iff.mp hk).1]; exact hk)).2
  rcases hty with rfl | rfl | rfl
  all_goals
    simp only [va_RA] at h1 h2
    rw [h1] at h2
    exact Option.some.inj h2
theorem z_sameO {cA cB : ClassId} {C0 : String} {k : Nat} {tys : List (ClassId × FieldType)} (hK : va_K D vwCl (tys ++ [(cA, .object C0)]) s) (hk : tys[k]? = some (cB, .object C0)) : cA = cB := by
  have h1 := (hK.2 tys.length (cA, .object C0) (by simp)).2
  have h2 := (hK.2 k (cB, .object C0) (by rw [List.getElem?_append_left (List.getElem?_eq_some_iff.mp hk).1]; exact hk)).2
  obtain ⟨-, -, -, -, -, h1⟩ := h1
  obtain ⟨-, -, -, -, -, h2⟩ := h2
  rw [h1] at h2
  exact Option.some.inj h2
/-- a new row of numbers, at the end of the world -/
theorem z_newi (X : CallFix p m c cc nL s args Ts own) (hK : va_K D vwCl (zTys K) s) (hP : va_P D vwCl ws H) (hD : va_D A ws) (hS : va_S A s.heap H locs) (hA : ∀ q, s.heap.size ≤ q → A q) (hwd : Cond.arrayClass .int ∈ Ts) {n : Int32} {N' : Nat} (hn : ¬ n < 0) (hN : n.toNatClampNeg = N') (hbytes : N' * componentBytes .int ≤ 536870912) (hcells : cells + 1 ≤ R.cells) (hslots : slots + N' ≤ R.slots) (hdg : decode cc pc = .ok (.newarray .int, 2))
    (kk : ∀ (q : Nat) (H1 : Heap), va_P D vwCl (ws ++ [(q, .inl (K 0, N', .inl (fun _ => 0)))]) H1 → va_D A (ws ++ [(q, .inl (K 0, N', .inl (fun _ => 0)))]) → va_S A s.heap H1 locs → W p l e R s m args below meth c H1 locs (cells + 1) (slots + N') Q (F0 m (pc + 2) ls (.ref q :: rest))) : W p l e R s m args below meth c H locs cells slots Q (F0 m pc ls (.int n :: rest)) := by
  refine va_newa (a0 := (N', .inl (fun _ => 0))) (ty := .int) (atype := .int) X.1 X.2.1 (X.2.2.2.2 _ hwd) rfl hK hP hD hS hA (fun cA => rfl) hn hN hbytes hcells hslots hdg (fun q cA H1 hK1 hP1 hD1 hS1 => ?_)
  obtain rfl := z_sameA (k := 0) (cB := K 0) (Or.inl rfl) hK1 rfl
  exact kk q H1 hP1 hD1 hS1
theorem z_newl (X : CallFix p m c cc nL s args Ts own) (hK : va_K D vwCl (zTys K) s) (hP : va_P D vwCl ws H) (hD : va_D A ws) (hS : va_S A s.heap H locs) (hA : ∀ q, s.heap.size ≤ q → A q) (hwd : Cond.arrayClass .long ∈ Ts) {n : Int32} {N' : Nat} (hn : ¬ n < 0) (hN : n.toNatClampNeg = N') (hbytes : N' * componentBytes .long ≤ 536870912) (hcells : cells + 1 ≤ R.cells) (hslots : slots + N' ≤ R.slots) (hdg : decode cc pc = .ok (.newarray .long, 2))
    (kk : ∀ (q : Nat) (H1 : Heap), va_P D vwCl (ws ++ [(q, .inl (K 1, N', .inr (.inl (fun _ => 0))))]) H1 → va_D A (ws ++ [(q, .inl (K 1, N', .inr (.inl (fun _ => 0))))]) → va_S A s.heap H1 locs → W p l e R s m args below meth c H1 locs (cells + 1) (slots + N') Q (F0 m (pc + 2) ls (.ref q :: rest))) : W p l e R s m args below meth c H locs cells slots Q (F0 m pc ls (.int n :: rest)) := by
  refine va_newa (a0 := (N', .inr (.inl (fun _ => 0)))) (ty := .long) (atype := .long) X.1 X.2.1 (X.2.2.2.2 _ hwd) rfl hK hP hD hS hA (fun cA => rfl) hn hN hbytes hcells hslots hdg (fun q cA H1 hK1 hP1 hD1 hS1 => ?_)
  obtain rfl := z_sameA (k := 1) (cB := K 1) (Or.inr (Or.inl rfl)) hK1 rfl
  exact kk q H1 hP1 hD1 hS1
theorem z_newz (X : CallFix p m c cc nL s args Ts own) (hK : va_K D vwCl (zTys K) s) (hP : va_P D vwCl ws H) (hD : va_D A ws) (hS : va_S A s.heap H locs) (hA : ∀ q, s.heap.size ≤ q → A q) (hwd : Cond.arrayClass .boolean ∈ Ts) {n : Int32} {N' : Nat} (hn : ¬ n < 0) (hN : n.toNatClampNeg = N') (hbytes : N' * componentBytes .boolean ≤ 536870912) (hcells : cells + 1 ≤ R.cells) (hslots : slots + N' ≤ R.slots) (hdg : decode cc pc = .ok (.newarray .boolean, 2))
    (kk : ∀ (q : Nat) (H1 : Heap), va_P D vwCl (ws ++ [(q, .inl (K 2, N', .inl (fun _ => 0)))]) H1 → va_D A (ws ++ [(q, .inl (K 2, N', .inl (fun _ => 0)))]) → va_S A s.heap H1 locs → W p l e R s m args below meth c H1 locs (cells + 1) (slots + N') Q (F0 m (pc + 2) ls (.ref q :: rest))) : W p l e R s m args below meth c H locs cells slots Q (F0 m pc ls (.int n :: rest)) := by
  refine va_newa (a0 := (N', .inl (fun _ => 0))) (ty := .boolean) (atype := .boolean) X.1 X.2.1 (X.2.2.2.2 _ hwd) rfl hK hP hD hS hA (fun cA => rfl) hn hN hbytes hcells hslots hdg (fun q cA H1 hK1 hP1 hD1 hS1 => ?_)
  obtain rfl := z_sameA (k := 2) (cB := K 2) (Or.inr (Or.inr rfl)) hK1 rfl
  exact kk q H1 hP1 hD1 hS1
theorem z_newq (X : CallFix p m c cc nL s args Ts own) (hK : va_K D vwCl (zTys K) s) (hP : va_P D vwCl ws H) (hD : va_D A ws) (hS : va_S A s.heap H locs) (hA : ∀ q, s.heap.size ≤ q → A q) (hwd : Cond.classLink own index C ∈ Ts) (hover : va_AO C s) (t0 : Nat) {cB : ClassId} (ht : (zTys K)[t0]? = some (cB, .object C)) {n : Int32} {N' : Nat} (hn : ¬ n < 0) (hN : n.toNatClampNeg = N') (hbytes : N' * 4 ≤ 536870912) (hcells : cells + 1 ≤ R.cells) (hslots : slots + N' ≤ R.slots) (hdg : decode cc pc = .ok (.anewarray index, 3))
    (kk : ∀ (q : Nat) (H1 : Heap), va_P D vwCl (ws ++ [(q, .inl (cB, N', .inr (.inr (.inr (.inr (fun _ => none))))))]) H1 → va_D A (ws ++ [(q, .inl (cB, N', .inr (.inr (.inr (.inr (fun _ => none))))))]) → va_S A s.heap H1 locs → W p l e R s m args below meth c H1 locs (cells + 1) (slots + N') Q (F0 m (pc + 3) ls (.ref q :: rest))) : W p l e R s m args below meth c H locs cells slots Q (F0 m pc ls (.int n :: rest)) := by
  refine va_newq X.1 X.2.1 X.2.2.2.1 (X.2.2.2.2 _ hwd) hover hK hP hD hS hA hn hN hbytes hcells hslots hdg (fun q cA H1 hK1 hP1 hD1 hS1 => ?_)
  obtain rfl := z_sameO hK1 ht
  exact kk q H1 hP1 hD1 hS1
/-- a constructor's end: some addresses, and the world at them -/
def zQc {α : Type} (P : α → Prop) (D : va_G) (A : Nat → Prop) (w : α → va_W) : Array Value → State → Outcome → State → Prop := fun _ st oc t => (oc = .returned none ∧ ∃ a : α, P a ∧ va_P D vwCl (w a) t.heap ∧ va_D A (w a)) ∧ va_F A st t
theorem z_runc {α : Type} {P : α → Prop} {w : α → va_W} {wr : va_W} {av : Array Value} {mc ms : Nat} (hr : va_Run p l e R s m args below meth c H locs cells slots mc ms (F0 m pc ls st0) rest (zQc P D (va_A wc H.size) w av) (va_A wc H.size)) (hP : va_P D vwCl ws H) (hD : va_D A ws) (hS : va_S A s.heap H locs) (hA : ∀ q, s.heap.size ≤ q → A q) (isC isR : List Nat) (hC : isC.map (fun i => ws[i]?) = wc.map some) (hR : isR.map (fun i => ws[i]?) = wr.map some) (hn : va_nd isR = true) (hdis : ∀ i ∈ isR, i ∉ isC)
    (kk : ∀ (a : α) (H1 : Heap) (locs1 : List Loc), P a → va_P D vwCl (wr ++ w a) H1 → va_D A (wr ++ w a) → va_S A s.heap H1 locs1 → W p l e R s m args below meth c H1 locs1 (cells + mc) (slots + ms) Q (F0 m (pc + 3) ls rest)) : W p l e R s m args below meth c H locs cells slots Q (F0 m pc ls st0) := by
  have hF := va_free (wc := wc) hD hS hA isC hC
  intro T hT X
  obtain ⟨v, st₀, t, T', L, h0, X', hL, e1, e2, ⟨⟨hv, a, hp, hq, hd⟩, hz, hk⟩, st⟩ := hr T hT X
  cases hv
  rw [h0] at hz hk
  obtain ⟨gP, gD⟩ := va_join hP hD isC isR hC hR hn hdis hk hF hq hd
  obtain ⟨t2, a1, b1⟩ := kk a t.heap (locs ++ L) hp gP gD
    ⟨Nat.le_trans hS.1 hz, fun q h1 h2 => by rw [hk q (Nat.lt_of_lt_of_le h1 hS.1) (fun z => h2 (hF q z))]; exact hS.2.1 q h1 h2, fun q hq => by
      rcases List.mem_append.mp hq with h | h
      · exact hS.2.2 q h
      · exact hF _ (hL q h)⟩ T' e1 X'
  exact ⟨t2, st t2 a1, b1⟩
theorem z_I {α : Type} {P : α → Prop} {w : α → va_W} {wr : va_W} {mc ms : Nat} (X : CallFix p m c cc nL s args Ts own) (hK : va_K D vwCl (zTys K) s) (hN : zN K A s) (hM : Met l y wsy rm (va_Pc (.ref b :: As) (zB D K H.size wc)) (zQc P D (va_A wc H.size) w) mc ms (va_A wc H.size)) (hG : GoodIn Ts wsy) (hw : wsy = Cond.code y bytes maxL none :: wsy') (hrc : rm.cells = mc ∧ rm.slots = ms) (hl0 : Cond.methodLink own index y ∈ Ts) (hi : Cond.initialized y.cls ∈ Ts) (him : Cond.instanceMethod y ∈ Ts) (hy1 : y.name = "<init>")
    (hd : y.cls ≠ "java/lang/invoke/MethodHandle" ∧ y.cls ≠ "java/lang/invoke/VarHandle" ∧ (parseMethodDescriptor y.desc).map (fun d => d.parameters.length) = some n) (hna : As.length = n) (hR : rm.frames + 1 ≤ R.frames ∧ 8 + (maxL + 11) + rm.locals ≤ R.locals)
    (hP : va_P D vwCl ws H) (hD : va_D A ws) (hS : va_S A s.heap H locs) (hA : ∀ q, s.heap.size ≤ q → A q) (isC isR : List Nat) (hPc : va_P D vwCl wc H) (hDc : va_D A wc) (hC : isC.map (fun i => ws[i]?) = wc.map some) (hRr : isR.map (fun i => ws[i]?) = wr.map some) (hn : va_nd isR = true) (hdis : ∀ i ∈ isR, i ∉ isC) (hl : ls.size = nL) (hs0 : st0 = As.reverse ++ .ref b :: rest) (hrm : (rest.map fun v => v.category).sum ≤ 8) (hdg : decode cc pc = .ok (.invokespecial index, 3)) (hf : cells + mc ≤ R.cells ∧ slots + ms ≤ R.slots)
    (kk : ∀ (a : α) (H1 : Heap) (locs1 : List Loc), P a → va_P D vwCl (wr ++ w a) H1 → va_D A (wr ++ w a) → va_S A s.heap H1 locs1 → W p l e R s m args below meth c H1 locs1 (cells + mc) (slots + ms) Q (F0 m (pc + 3) ls rest)) : W p l e R s m args below meth c H locs cells slots Q (F0 m pc ls st0) :=
  z_runc (va_runI (As := As) (rest := rest) (b := b) X hM (cwI n X.2.2.2.2 hG hw hrc.1 hrc.2 (X.2.2.2.2 _ hi) (X.2.2.2.2 _ hl0) (X.2.2.2.2 _ him) hy1 hd hR) ⟨zB_blind, zB_now hK hN hPc hDc hS (va_free (wc := wc) hD hS hA isC hC)⟩ rfl hna hl hs0 (lv_room hrm) hdg hf) hP hD hS hA isC isR hC hRr hn hdis kk
theorem z_IN {α : Type} {P : α → Prop} {w : α → va_W} {wr : va_W} {mc ms : Nat} (X : CallFix p m c cc nL s args Ts own) (hK : va_K D vwCl (zTys K) s) (hN : zN K A s) (hM : Met l y wsy rm (va_Pc (.ref b :: As) (zB D K H.size wc)) (zQc P D (va_A wc H.size) w) mc ms (va_A wc H.size)) (hG : GoodIn Ts wsy) (hw : wsy = Cond.code y bytes maxL none :: wsy') (hrc : rm.cells = mc ∧ rm.slots = ms) (hl0 : (own, index, y, host) ∈ zNest) (hi : Cond.initialized y.cls ∈ Ts) (him : Cond.instanceMethod y ∈ Ts) (hy1 : y.name = "<init>")
    (hd : y.cls ≠ "java/lang/invoke/MethodHandle" ∧ y.cls ≠ "java/lang/invoke/VarHandle" ∧ (parseMethodDescriptor y.desc).map (fun d => d.parameters.length) = some n) (hna : As.length = n) (hR : rm.frames + 1 ≤ R.frames ∧ 8 + (maxL + 11) + rm.locals ≤ R.locals)
    (hP : va_P D vwCl ws H) (hD : va_D A ws) (hS : va_S A s.heap H locs) (hA : ∀ q, s.heap.size ≤ q → A q) (isC isR : List Nat) (hPc : va_P D vwCl wc H) (hDc : va_D A wc) (hC : isC.map (fun i => ws[i]?) = wc.map some) (hRr : isR.map (fun i => ws[i]?) = wr.map some) (hn : va_nd isR = true) (hdis : ∀ i ∈ isR, i ∉ isC) (hl : ls.size = nL) (hs0 : st0 = As.reverse ++ .ref b :: rest) (hrm : (rest.map fun v => v.category).sum ≤ 8) (hdg : decode cc pc = .ok (.invokespecial index, 3)) (hf : cells + mc ≤ R.cells ∧ slots + ms ≤ R.slots)
    (kk : ∀ (a : α) (H1 : Heap) (locs1 : List Loc), P a → va_P D vwCl (wr ++ w a) H1 → va_D A (wr ++ w a) → va_S A s.heap H1 locs1 → W p l e R s m args below meth c H1 locs1 (cells + mc) (slots + ms) Q (F0 m (pc + 3) ls rest)) : W p l e R s m args below meth c H locs cells slots Q (F0 m pc ls st0) :=
  z_runc (va_runIN (As := As) (rest := rest) (b := b) X hM ⟨va_cnB n X.2.2.2.2 hG hw hrc.1 hrc.2 (hN.1.1 _ hl0) (X.2.2.2.2 _ hi) hd hR, hy1, X.2.2.2.2 _ him⟩ ⟨zB_blind, zB_now hK hN hPc hDc hS (va_free (wc := wc) hD hS hA isC hC)⟩ rfl hna hl hs0 (lv_room hrm) hdg hf) hP hD hS hA isC isR hC hRr hn hdis kk
/-! ends -/
theorem z_iret (X : CallFix p m c cc nL s args Ts own) (hr : meth.sig.returnType = some .int) (hlk : meth.locks = false) {v : Int32} (hP : va_P D vwCl ws H) (hD : va_D A ws) (hS : va_S A s.heap H locs) (hdg : decode cc pc = .ok (.ireturn, 1)) : W p l e R s m args below meth c H locs cells slots (MQ below (zQ (some (.int v)) D A ws) args s cells slots A) (F0 m pc ls [.int v]) :=
  W.iret (Qc := zQ (some (.int v)) D A ws) X.1 X.2.1 hr (fun t ht _ => ⟨⟨rfl, by rw [ht]; exact hP, hD⟩, hS.F ht⟩) hS.2.2 hdg hlk
theorem z_zret (X : CallFix p m c cc nL s args Ts own) (hr : meth.sig.returnType = some .boolean) (hlk : meth.locks = false) {v : Int32} (hv : v &&& 1 = v) (hP : va_P D vwCl ws H) (hD : va_D A ws) (hS : va_S A s.heap H locs) (hdg : decode cc pc = .ok (.ireturn, 1)) : W p l e R s m args below meth c H locs cells slots (MQ below (zQ (some (.int v)) D A ws) args s cells slots A) (F0 m pc ls [.int v]) :=
  W.zret (Qc := zQ (some (.int v)) D A ws) X.1 X.2.1 hr (z_b1 hv) (fun t ht _ => ⟨⟨rfl, by rw [ht]; exact hP, hD⟩, hS.F ht⟩) hS.2.2 hdg hlk
theorem z_lret (X : CallFix p m c cc nL s args Ts own) (hr : meth.sig.returnType = some .long) (hlk : meth.locks = false) {v : Int64} (hP : va_P D vwCl ws H) (hD : va_D A ws) (hS : va_S A s.heap H locs) (hdg : decode cc pc = .ok (.lreturn, 1)) : W p l e R s m args below meth c H locs cells slots (MQ below (zQ (some (.long v)) D A ws) args s cells slots A) (F0 m pc ls [.long v]) :=
  W.lret (Qc := zQ (some (.long v)) D A ws) X.1 X.2.1 hr (fun t ht _ => ⟨⟨rfl, by rw [ht]; exact hP, hD⟩, hS.F ht⟩) hS.2.2 hdg hlk
theorem z_vret (X : CallFix p m c cc nL s args Ts own) (hr : meth.sig.returnType = none) (hlk : meth.locks = false) (hP : va_P D vwCl ws H) (hD : va_D A ws) (hS : va_S A s.heap H locs) (hdg : decode cc pc = .ok (.return_, 1)) : W p l e R s m args below meth c H locs cells slots (MQ below (zQ none D A ws) args s cells slots A) (F0 m pc ls []) :=
  W.vret (Qc := zQ none D A ws) X.1 X.2.1 hr (fun t ht _ => ⟨⟨rfl, by rw [ht]; exact hP, hD⟩, hS.F ht⟩) hS.2.2 hdg hlk
theorem z_cret {α : Type} {P : α → Prop} {w : α → va_W} {x : α} (X : CallFix p m c cc nL s args Ts own) (hr : meth.sig.returnType = none) (hlk : meth.locks = false) (hp : P x) (hP : va_P D vwCl (w x) H) (hD : va_D A (w x)) (hS : va_S A s.heap H locs) (hdg : decode cc pc = .ok (.return_, 1)) : W p l e R s m args below meth c H locs cells slots (MQ below (zQc P D A w) args s cells slots A) (F0 m pc ls []) :=
  W.vret (Qc := zQc P D A w) X.1 X.2.1 hr (fun t ht _ => ⟨⟨rfl, x, hp, by rw [ht]; exact hP, hD⟩, hS.F ht⟩) hS.2.2 hdg hlk
end ZC
theorem z_qc {cA : ClassId} {n : Nat} {f f' : Nat → Option Nat} (h : ∀ i, i < n → f i = f' i) : vp_cell cA (n, .inr (.inr (.inr (.inr f)))) = vp_cell cA (n, .inr (.inr (.inr (.inr f')))) := by
  rw [vp_cell_q, vp_cell_q]
  unfold arrV
  congr 1
  apply congrArg
  funext j
  show va_rf (f j.val) = va_rf (f' j.val)
  rw [h j.val j.isLt]
theorem z_ref1 {D : va_G} {L : va_W} {H : Heap} (hP : va_P D vwCl L H) (k : Nat) {a : Nat} {cA : ClassId} {n : Nat} {f f' : Nat → Option Nat} (h1 : L[k]? = some (a, .inl (cA, n, .inr (.inr (.inr (.inr f)))))) (e1 : ∀ i, i < n → f i = f' i) : va_P D vwCl (L.set k (a, .inl (cA, n, .inr (.inr (.inr (.inr f')))))) H := by
  intro j q hj
  rw [List.getElem?_set] at hj
  by_cases c : k = j
  · rw [if_pos c] at hj
    have hl : k < L.length := (List.getElem?_eq_some_iff.mp h1).1
    rw [if_pos hl] at hj
    cases hj
    have h0 := hP k _ h1
    show H[a]? = some (vp_cell cA (n, .inr (.inr (.inr (.inr f')))))
    rw [← z_qc e1]
    exact h0
  · rw [if_neg c] at hj
    exact hP j q hj
