/-! contracts of one shape, and the rows that use them -/
/-- a part of a pure program that may not go on -/
def ck {α : Type} (i : Int32) (n : Nat) (a : Option α) : Option α := if 0 ≤ i.toInt ∧ i.toInt < n then a else none
def dz {α : Type} (y : Int32) (a : Option α) : Option α := if y = 0 then none else a
def cz {α : Type} (v : Int32) (a : Option α) : Option α := if v = 0 ∨ v = 1 then a else none
def jn {α β : Type} (a : α) (f : α → β) : β := f a
/-- how many turns a loop may take -/
def QF : Nat := 1000000
theorem ck_e {α : Type} {i : Int32} {n : Nat} {a : Option α} {z : α} (h : ck i n a = some z) : vp_in i n ∧ a = some z := by
  unfold ck at h
  by_cases hc : 0 ≤ i.toInt ∧ i.toInt < n
  · rw [if_pos hc] at h; exact ⟨vp_in_iff.mpr hc, h⟩
  · rw [if_neg hc] at h; cases h
theorem dz_e {α : Type} {y : Int32} {a : Option α} {z : α} (h : dz y a = some z) : ¬ y = 0 ∧ a = some z := by
  unfold dz at h
  by_cases hc : y = 0
  · rw [if_pos hc] at h; cases h
  · rw [if_neg hc] at h; exact ⟨hc, h⟩
theorem cz_e {α : Type} {v : Int32} {a : Option α} {z : α} (h : cz v a = some z) : narrow .boolean (.int v) = .int v ∧ fits .boolean (.int v) = true ∧ a = some z := by
  unfold cz at h
  by_cases hc : v = 0 ∨ v = 1
  · rw [if_pos hc] at h
    rcases hc with rfl | rfl
    · exact ⟨rfl, rfl, h⟩
    · exact ⟨rfl, rfl, h⟩
  · rw [if_neg hc] at h; cases h
theorem nar_0 : narrow .boolean (.int 0) = .int 0 := rfl
theorem nar_1 : narrow .boolean (.int 1) = .int 1 := rfl
theorem jn_e {α β : Type} {a : α} {f : α → β} {x : β} (h : jn a f = x) : ∃ j, j = a ∧ f j = x := ⟨a, rfl, h⟩
theorem bd_e {α β : Type} {o : Option α} {f : α → Option β} {z : β} (h : o.bind f = some z) : ∃ a, o = some a ∧ f a = some z := Option.bind_eq_some_iff.mp h
theorem it_e {α : Type} {c : Prop} {i : Decidable c} {a b x : α} (hc : c) (h : @ite α c i a b = x) : a = x := (if_pos hc).symm.trans h
theorem if_e {α : Type} {c : Prop} {i : Decidable c} {a b x : α} (hc : ¬ c) (h : @ite α c i a b = x) : b = x := (if_neg hc).symm.trans h
theorem no_e {α : Type} {z : α} {C : Prop} (h : none = some z) : C := by cases h
theorem va_all {α : Type} {l : List α} {ps : List Nat} (h : ps.all (fun i => Nat.blt i l.length) = true) : ps.map (fun i => l[i]?) = (ps.filterMap (fun i => l[i]?)).map some := by
  induction ps with
  | nil => rfl
  | cons i ps ih =>
    rw [List.all_cons, Bool.and_eq_true] at h
    obtain ⟨h1, h2⟩ := h
    have hlt : i < l.length := Nat.blt_eq.mp h1
    rw [List.map_cons, ih h2, List.filterMap_cons, List.getElem?_eq_getElem hlt]
    rfl
/-- the one String constant, and two statics of the JDK's, as they stood at the start: nobody writes them -/
def QZ (A : Nat → Prop) (U : State) (H : Heap) : Prop := (∃ (adK adV : Nat → Nat), vk_S 1 [6] [[99, 104, 111, 105, 99, 101]] adK adV A U H ∧ vk_R "NoWordNo$Tokens" 49 "choice" (adK 0) U) ∧ va_Z "java/lang/String" "COMPACT_STRINGS" "Z" (.int 1) A U H ∧ va_Zq "jdk/internal/util/Preconditions" "SIOOBE_FORMATTER" "Ljava/util/function/BiFunction;" A U H
theorem QZ.calling {A : Nat → Prop} {U : State} {g : JFrame} {mk : MethodId} {a : Array Value} (h : QZ A U U.heap) : QZ A (U.calling g mk a) (U.calling g mk a).heap := by
  obtain ⟨⟨adK, adV, h1, h2⟩, h3, h4⟩ := h
  exact ⟨⟨adK, adV, vk_S.moved (u := U) (Vm.Alike.refl U.vm) h1, vk_R.same (u := U) rfl h2⟩, va_Z.moved (u := U) (Vm.Alike.refl U.vm) h3, va_Zq.moved (u := U) (Vm.Alike.refl U.vm) h4⟩
theorem QZ.pass {A B : Nat → Prop} {s U : State} {H : Heap} {locs : List Loc} (h : QZ A s s.heap) (hS : va_S A s.heap H locs) (hAB : ∀ q, B q → A q) (hU : U.heap = H) (hW : s.WarmedH U.vm) : QZ B U U.heap := by
  obtain ⟨⟨adK, adV, h1, h2⟩, h3, h4⟩ := h
  rw [hU]
  exact ⟨⟨adK, adV, vk_S.moved hW.alike ((h1.kept hS.2.1).narrow hAB), vk_R.warm hW h2⟩, va_Z.moved hW.alike ((h3.kept hS.2.1).narrow hAB), va_Zq.moved hW.alike ((h4.kept hS.2.1).narrow hAB)⟩
/-- what is behind a method: its world, the tables -/
def QB (D : va_G) (T : List (ClassId × FieldType)) (A : Nat → Prop) (ws : va_W) (t : State) : Prop := va_P D vwCl ws t.heap ∧ va_K D vwCl T t ∧ va_D A ws
def QPc (D : va_G) (T : List (ClassId × FieldType)) (ws : va_W) (sz : Nat) (av : List Value) : Array Value → State → Prop := va_Pc av (fun U => U.heap.size = sz ∧ va_P D vwCl ws U.heap ∧ va_K D vwCl T U ∧ va_D (fun _ => True) ws ∧ QZ (va_A ws sz) U U.heap)
theorem QPc.blind {D : va_G} {T : List (ClassId × FieldType)} {ws : va_W} {sz : Nat} {av : List Value} : FrameBlind (QPc D T ws sz av) := fun a U g mk q => by
  obtain ⟨q0, q1, qP, qK, qD, qZ⟩ := q
  exact ⟨q0, q1, qP, va_K.moved (u := U) (U := U.calling g mk a) (Vm.Alike.refl U.vm) qK, qD, qZ.calling⟩
theorem QPc.of {D : va_G} {T : List (ClassId × FieldType)} {wc : va_W} {av : List Value} {A : Nat → Prop} {s : State} {H : Heap} {locs : List Loc} (hP : va_P D vwCl wc H) (hK : va_K D vwCl T s) (hD : va_D A wc) (hZ : QZ A s s.heap) (hS : va_S A s.heap H locs) (hFc : ∀ q, va_A wc H.size q → A q) (U : State) (hU : U.heap = H) (hW : s.WarmedH U.vm) : QPc D T wc H.size av av.toArray U :=
  ⟨rfl, by rw [hU], by rw [hU]; exact hP, va_K.moved hW.alike hK, hD.weaken (fun _ _ _ _ => trivial), hZ.pass hS hFc hU hW⟩
def QI (D : va_G) (T : List (ClassId × FieldType)) (A : Nat → Prop) (W1 : va_W) (r : Int32) : Array Value → State → Outcome → State → Prop := va_Qi (fun (r2 : Int32) (_ : Unit) => r2 = r) (fun _ t => QB D T A W1 t) A
def QL (D : va_G) (T : List (ClassId × FieldType)) (A : Nat → Prop) (W1 : va_W) (r : Int64) : Array Value → State → Outcome → State → Prop := va_Ql (fun (r2 : Int64) (_ : Unit) => r2 = r) (fun _ t => QB D T A W1 t) A
def QV (D : va_G) (T : List (ClassId × FieldType)) (A : Nat → Prop) (W1 : va_W) : Array Value → State → Outcome → State → Prop := va_Qv (fun (_ : Unit) => True) (fun _ t => QB D T A W1 t) A
def QR (D : va_G) (T : List (ClassId × FieldType)) (A : Nat → Prop) (W1 : va_W) (r : Nat) : Array Value → State → Outcome → State → Prop := va_Qr (fun (_ : Unit) => True) (fun _ a t => a = r ∧ QB D T A W1 t) A
/-- a method's contract: its start's world, its end's, its answer -/
def KI (l : Launch) (y : MethodName) (wd : List Cond) (rm : Room) (D : va_G) (T : List (ClassId × FieldType)) (av : List Value) (W0 W1 : va_W) (r : Int32) : Prop := ∀ sz : Nat, Met l y wd rm (QPc D T W0 sz av) (QI D T (va_A W0 sz) W1 r) 0 0 (va_A W0 sz)
def KL (l : Launch) (y : MethodName) (wd : List Cond) (rm : Room) (D : va_G) (T : List (ClassId × FieldType)) (av : List Value) (W0 W1 : va_W) (r : Int64) : Prop := ∀ sz : Nat, Met l y wd rm (QPc D T W0 sz av) (QL D T (va_A W0 sz) W1 r) 0 0 (va_A W0 sz)
def KV (l : Launch) (y : MethodName) (wd : List Cond) (rm : Room) (D : va_G) (T : List (ClassId × FieldType)) (av : List Value) (W0 W1 : va_W) : Prop := ∀ sz : Nat, Met l y wd rm (QPc D T W0 sz av) (QV D T (va_A W0 sz) W1) 0 0 (va_A W0 sz)
def KR (l : Launch) (y : MethodName) (wd : List Cond) (rm : Room) (D : va_G) (T : List (ClassId × FieldType)) (av : List Value) (W0 W1 : va_W) (r : Nat) : Prop := ∀ sz : Nat, Met l y wd rm (QPc D T W0 sz av) (QR D T (va_A W0 sz) W1 r) 0 0 (va_A W0 sz)
/-- what a body has at its entry -/
theorem Q_of {l : Launch} {y : MethodName} {own : String} {wd wd' : List Cond} {rm : Room} {D : va_G} {T : List (ClassId × FieldType)} {av : List Value} {W0 : va_W} {sz : Nat} {cc : ByteArray} {maxL : Nat} {ret : Option FieldType} {Qc : (Nat → Prop) → Array Value → State → Outcome → State → Prop}
    (hy : plainName y.cls = true) (ho : y.cls = own) (hw : wd = Cond.code y cc maxL ret :: wd') (hn : (lg_sl av).length ≤ maxL)
    (body : ∀ (p : Program) (e : Env) (s : State) (m : MethodId) (args : Array Value) (below : List Frame) (meth : Method) (c : Code) (A : Nat → Prop), p.tables.exec = Jvm.exec → c.code = cc → meth.sig.returnType = ret → c.maxLocals = maxL → s.vm.findClass own = some m.cls → (∀ w ∈ wd, w.before args s = true) → meth.locks = false → (∀ q : Nat, s.heap.size ≤ q → A q) → QZ A s s.heap → va_K D vwCl T s →
      ∀ (H : Heap) (locs : List Loc) (ls : Array Slot), va_P D vwCl W0 H → va_D A W0 → va_S A s.heap H locs → lv_has ls maxL (lv_args 0 av) → W p l e rm s m args below meth c H locs 0 0 (MQ below (Qc A) args s 0 0 A) (F0 m 0 ls [])) :
    Met l y wd rm (QPc D T W0 sz av) (Qc (va_A W0 sz)) 0 0 (va_A W0 sz) := by
  refine Met.ofW (cc := cc) (maxL := maxL) (ret := ret) hy hw ?_
  intro p e s m args below meth c s₁ B hml hv
  obtain ⟨rfl, hsz, hP, hK, hD0, hZ⟩ := hv
  have hown : s.vm.findClass own = some m.cls := ho ▸ findClass_of_methodNamed B.named
  have hl := lv_entry av (n := maxL) hn
  rw [lg_entry_eq]
  generalize (lg_sl av ++ List.replicate (maxL - (lg_sl av).length) Slot.unset).toArray = ls at hl ⊢
  subst hsz
  exact body p e s m _ below meth c _ B.exec B.bytes B.returns hml hown (atoms_spec (ws := wd) B.pre) B.notSynchronized (fun q h => Or.inr h) hZ hK s.heap [] ls hP hD0.self va_S.rf hl
theorem KI_of {l : Launch} {y : MethodName} {own : String} {wd wd' : List Cond} {rm : Room} {D : va_G} {T : List (ClassId × FieldType)} {av : List Value} {W0 W1 : va_W} {r : Int32} {cc : ByteArray} {maxL : Nat} {ret : Option FieldType} (hy : plainName y.cls = true) (ho : y.cls = own) (hw : wd = Cond.code y cc maxL ret :: wd') (hn : (lg_sl av).length ≤ maxL) (hrt : ret = some .int ∨ ret = some .boolean)
    (body : ∀ (p : Program) (e : Env) (s : State) (m : MethodId) (args : Array Value) (below : List Frame) (meth : Method) (c : Code) (A : Nat → Prop) (Q : State → Prop), p.tables.exec = Jvm.exec → c.code = cc → c.maxLocals = maxL → s.vm.findClass own = some m.cls → (∀ w ∈ wd, w.before args s = true) → (∀ q : Nat, s.heap.size ≤ q → A q) → QZ A s s.heap → va_K D vwCl T s →
      (∀ (H : Heap) (locs : List Loc) (pc : Nat) (ls : Array Slot), (∀ ty, ret = some ty → narrow ty (.int r) = .int r) → va_P D vwCl W1 H → va_D A W1 → va_S A s.heap H locs → decode cc pc = .ok (.ireturn, 1) → W p l e rm s m args below meth c H locs 0 0 Q (F0 m pc ls [.int r])) →
      ∀ (H : Heap) (locs : List Loc) (ls : Array Slot), va_P D vwCl W0 H → va_D A W0 → va_S A s.heap H locs → lv_has ls maxL (lv_args 0 av) → W p l e rm s m args below meth c H locs 0 0 Q (F0 m 0 ls [])) :
    KI l y wd rm D T av W0 W1 r := by
  intro sz
  refine Q_of (own := own) (cc := cc) (maxL := maxL) (ret := ret) (Qc := fun A => QI D T A W1 r) hy ho hw hn ?_
  intro p e s m args below meth c A hx hb hr hml hown hts hlocks hA hZ hK H locs ls hP hD hS hl
  refine body p e s m args below meth c A _ hx hb hml hown hts hA hZ hK ?_ H locs ls hP hD hS hl
  intro H locs pc ls hn hP hD hS hd
  rcases hrt with e1 | e1
  · exact W.iret (v := r) hx hb (hr.trans e1) (fun t ht hW => ⟨⟨r, (), rfl, rfl, by rw [ht]; exact hP, va_K.moved hW.alike hK, hD⟩, hS.F ht⟩) hS.2.2 hd
  · exact W.zret (v := r) hx hb (hr.trans e1) (hn _ e1) (fun t ht hW => ⟨⟨r, (), rfl, rfl, by rw [ht]; exact hP, va_K.moved hW.alike hK, hD⟩, hS.F ht⟩) hS.2.2 hd
theorem KL_of {l : Launch} {y : MethodName} {own : String} {wd wd' : List Cond} {rm : Room} {D : va_G} {T : List (ClassId × FieldType)} {av : List Value} {W0 W1 : va_W} {r : Int64} {cc : ByteArray} {maxL : Nat} (hy : plainName y.cls = true) (ho : y.cls = own) (hw : wd = Cond.code y cc maxL (some .long) :: wd') (hn : (lg_sl av).length ≤ maxL)
    (body : ∀ (p : Program) (e : Env) (s : State) (m : MethodId) (args : Array Value) (below : List Frame) (meth : Method) (c : Code) (A : Nat → Prop) (Q : State → Prop), p.tables.exec = Jvm.exec → c.code = cc → c.maxLocals = maxL → s.vm.findClass own = some m.cls → (∀ w ∈ wd, w.before args s = true) → (∀ q : Nat, s.heap.size ≤ q → A q) → QZ A s s.heap → va_K D vwCl T s →
      (∀ (H : Heap) (locs : List Loc) (pc : Nat) (ls : Array Slot), va_P D vwCl W1 H → va_D A W1 → va_S A s.heap H locs → decode cc pc = .ok (.lreturn, 1) → W p l e rm s m args below meth c H locs 0 0 Q (F0 m pc ls [.long r])) →
      ∀ (H : Heap) (locs : List Loc) (ls : Array Slot), va_P D vwCl W0 H → va_D A W0 → va_S A s.heap H locs → lv_has ls maxL (lv_args 0 av) → W p l e rm s m args below meth c H locs 0 0 Q (F0 m 0 ls [])) :
    KL l y wd rm D T av W0 W1 r := by
  intro sz
  refine Q_of (own := own) (cc := cc) (maxL := maxL) (ret := some .long) (Qc := fun A => QL D T A W1 r) hy ho hw hn ?_
  intro p e s m args below meth c A hx hb hr hml hown hts hlocks hA hZ hK H locs ls hP hD hS hl
  refine body p e s m args below meth c A _ hx hb hml hown hts hA hZ hK ?_ H locs ls hP hD hS hl
  intro H locs pc ls hP hD hS hd
  exact W.lret (v := r) hx hb hr (fun t ht hW => ⟨⟨r, (), rfl, rfl, by rw [ht]; exact hP, va_K.moved hW.alike hK, hD⟩, hS.F ht⟩) hS.2.2 hd
theorem KV_of {l : Launch} {y : MethodName} {own : String} {wd wd' : List Cond} {rm : Room} {D : va_G} {T : List (ClassId × FieldType)} {av : List Value} {W0 W1 : va_W} {cc : ByteArray} {maxL : Nat} (hy : plainName y.cls = true) (ho : y.cls = own) (hw : wd = Cond.code y cc maxL none :: wd') (hn : (lg_sl av).length ≤ maxL)
    (body : ∀ (p : Program) (e : Env) (s : State) (m : MethodId) (args : Array Value) (below : List Frame) (meth : Method) (c : Code) (A : Nat → Prop) (Q : State → Prop), p.tables.exec = Jvm.exec → c.code = cc → c.maxLocals = maxL → s.vm.findClass own = some m.cls → (∀ w ∈ wd, w.before args s = true) → (∀ q : Nat, s.heap.size ≤ q → A q) → QZ A s s.heap → va_K D vwCl T s →
      (∀ (H : Heap) (locs : List Loc) (pc : Nat) (ls : Array Slot), va_P D vwCl W1 H → va_D A W1 → va_S A s.heap H locs → decode cc pc = .ok (.return_, 1) → W p l e rm s m args below meth c H locs 0 0 Q (F0 m pc ls [])) →
      ∀ (H : Heap) (locs : List Loc) (ls : Array Slot), va_P D vwCl W0 H → va_D A W0 → va_S A s.heap H locs → lv_has ls maxL (lv_args 0 av) → W p l e rm s m args below meth c H locs 0 0 Q (F0 m 0 ls [])) :
    KV l y wd rm D T av W0 W1 := by
  intro sz
  refine Q_of (own := own) (cc := cc) (maxL := maxL) (ret := none) (Qc := fun A => QV D T A W1) hy ho hw hn ?_
  intro p e s m args below meth c A hx hb hr hml hown hts hlocks hA hZ hK H locs ls hP hD hS hl
  refine body p e s m args below meth c A _ hx hb hml hown hts hA hZ hK ?_ H locs ls hP hD hS hl
  intro H locs pc ls hP hD hS hd
  exact W.vret hx hb hr (fun t ht hW => ⟨⟨(), rfl, trivial, by rw [ht]; exact hP, va_K.moved hW.alike hK, hD⟩, hS.F ht⟩) hS.2.2 hd
theorem KR_of {l : Launch} {y : MethodName} {own : String} {wd wd' : List Cond} {rm : Room} {D : va_G} {T : List (ClassId × FieldType)} {av : List Value} {W0 W1 : va_W} {r : Nat} {rt : FieldType} {cc : ByteArray} {maxL : Nat} (hy : plainName y.cls = true) (ho : y.cls = own) (hw : wd = Cond.code y cc maxL (some rt) :: wd') (hn : (lg_sl av).length ≤ maxL) (hrt : (∃ n, rt = .object n) ∨ ∃ t, rt = .array t)
    (body : ∀ (p : Program) (e : Env) (s : State) (m : MethodId) (args : Array Value) (below : List Frame) (meth : Method) (c : Code) (A : Nat → Prop) (Q : State → Prop), p.tables.exec = Jvm.exec → c.code = cc → c.maxLocals = maxL → s.vm.findClass own = some m.cls → (∀ w ∈ wd, w.before args s = true) → (∀ q : Nat, s.heap.size ≤ q → A q) → QZ A s s.heap → va_K D vwCl T s →
      (∀ (H : Heap) (locs : List Loc) (pc : Nat) (ls : Array Slot), va_P D vwCl W1 H → va_D A W1 → va_S A s.heap H locs → decode cc pc = .ok (.areturn, 1) → W p l e rm s m args below meth c H locs 0 0 Q (F0 m pc ls [.ref r])) →
      ∀ (H : Heap) (locs : List Loc) (ls : Array Slot), va_P D vwCl W0 H → va_D A W0 → va_S A s.heap H locs → lv_has ls maxL (lv_args 0 av) → W p l e rm s m args below meth c H locs 0 0 Q (F0 m 0 ls [])) :
    KR l y wd rm D T av W0 W1 r := by
  intro sz
  refine Q_of (own := own) (cc := cc) (maxL := maxL) (ret := some rt) (Qc := fun A => QR D T A W1 r) hy ho hw hn ?_
  intro p e s m args below meth c A hx hb hr hml hown hts hlocks hA hZ hK H locs ls hP hD hS hl
  refine body p e s m args below meth c A _ hx hb hml hown hts hA hZ hK ?_ H locs ls hP hD hS hl
  intro H locs pc ls hP hD hS hd
  exact W.aret (v := .ref r) hx hb hr hrt (Or.inr ⟨r, rfl⟩) (fun t ht hW => ⟨⟨(), r, rfl, trivial, rfl, by rw [ht]; exact hP, va_K.moved hW.alike hK, hD⟩, hS.F ht⟩) hS.2.2 hd
theorem q_keep {D : va_G} {ws : va_W} {H H1 : Heap} (hP : va_P D vwCl ws H) (h : ∀ q : Nat, q < H.size → H1[q]? = H[q]?) : va_P D vwCl ws H1 := hP.kept (fun k q hk => h q.1 (hP k q hk).lt)
section QCALL
variable {p : Program} {l : Launch} {e : Env} {R : Room} {s : State} {m : MethodId} {args : Array Value} {below : List Frame} {meth : Method} {c : Code} {H : Heap} {locs : List Loc} {cells slots : Nat} {Q : State → Prop}
  {cc : ByteArray} {nL : Nat} {Ts : List Cond} {own : String} {D : va_G} {T : List (ClassId × FieldType)} {A : Nat → Prop} {ws wc wc' wF : va_W}
  {y : MethodName} {wd wd' : List Cond} {rm : Room} {As rest st : List Value} {b : Nat} {bytes : ByteArray} {maxL index : Nat} {ret : Option FieldType} {C : String} {TT : u_T} {NN : Nat} {fs : List Value} {ls : Array Slot} {pc : Nat}
/-- the callee's cells, put beside the rest -/
theorem q_join {H1 : Heap} (hP : va_P D vwCl ws H) (hD : va_D A ws) (hS : va_S A s.heap H locs) (hA : ∀ q : Nat, s.heap.size ≤ q → A q) (isC isR : List Nat) (hC : isC.map (fun i => ws[i]?) = wc.map some) (hR : isR.all (fun i => Nat.blt i ws.length) = true) (hn2 : va_nd isR = true) (hdis : ∀ i ∈ isR, i ∉ isC) (hF : isR.filterMap (fun i => ws[i]?) ++ wc' = wF)
    (hk : ∀ q : Nat, q < H.size → ¬ va_A wc H.size q → H1[q]? = H[q]?) (hP1 : va_P D vwCl wc' H1) (hD1 : va_D (va_A wc H.size) wc') : va_P D vwCl wF H1 ∧ va_D A wF := by
  subst hF
  exact va_join hP hD isC isR hC (va_all hR) hn2 hdis hk (va_free hD hS hA isC hC) hP1 hD1
theorem q_sub (isC : List Nat) (hP : va_P D vwCl ws H) (hC : isC.map (fun i => ws[i]?) = wc.map some) : va_P D vwCl wc H := by
  intro k q hk
  have h1 : (isC.map (fun i => ws[i]?))[k]? = some (some q) := by rw [hC, List.getElem?_map, hk]; rfl
  rw [List.getElem?_map] at h1
  cases hi : isC[k]? with
  | none => rw [hi] at h1; cases h1
  | some i => rw [hi] at h1; exact hP i q (Option.some.inj h1)
theorem q_iV (hF : CallFix p m c cc nL s args Ts own) (hA : ∀ q : Nat, s.heap.size ≤ q → A q) (hZ : QZ A s s.heap) (hK : va_K D vwCl T s) (hP : va_P D vwCl ws H) (hD : va_D A ws) (hS : va_S A s.heap H locs) {r : Int32} (hc : KI l y wd rm D T (.ref b :: As) wc wc' r)
    (hw : wd = Cond.code y bytes maxL ret :: wd') (hG : GoodIn Ts (wsV own index C y wd)) (hd : y.cls = C ∧ y.cls ≠ "java/lang/invoke/MethodHandle" ∧ y.cls ≠ "java/lang/invoke/VarHandle" ∧ (parseMethodDescriptor y.desc).map (fun d => d.parameters.length) = some As.length) (hrm : rm.cells = 0 ∧ rm.slots = 0) (hR1 : rm.frames + 1 ≤ R.frames) (hR2 : 8 + (maxL + 11) + rm.locals ≤ R.locals)
    (ci q0 : Nat) (hcl : vwCl[ci]? = some (C, TT, NN)) (he : wc[q0]? = some (b, .inr (ci, fs))) (isC isR : List Nat) (hC : isC.map (fun i => ws[i]?) = wc.map some) (hR : isR.all (fun i => Nat.blt i ws.length) = true) (hn : va_nd isC = true) (hn2 : va_nd isR = true) (hdis : ∀ i ∈ isR, i ∉ isC) (hwF : isR.filterMap (fun i => ws[i]?) ++ wc' = wF)
    (hsz : ls.size = nL) (hst : st = As.reverse ++ .ref b :: rest) (hroom : (rest.map fun v => v.category).sum ≤ 8) (hcs : cells ≤ R.cells) (hsl : slots ≤ R.slots) (hdg : decode cc pc = .ok (.invokevirtual index, 3))
    (kk : ∀ (H : Heap) (locs : List Loc), va_P D vwCl wF H → va_D A wF → va_S A s.heap H locs → W p l e R s m args below meth c H locs cells slots Q (F0 m (pc + 3) ls (.int r :: rest))) : W p l e R s m args below meth c H locs cells slots Q (F0 m pc ls st) := by
  have hPc := q_sub isC hP hC
  have hDc := hD.sub isC hn hC
  have hFc := va_free hD hS hA isC hC
  refine va_calli (va_runV (As := As) (rest := rest) hF (hc H.size) (cwV As.length hF.2.2.2.2 hG hw hrm.1 hrm.2 hd ⟨hR1, hR2⟩) ⟨QPc.blind, va_recv hK hPc hcl he, fun U hU hW => QPc.of hPc hK hDc hZ hS hFc U hU hW⟩ rfl rfl hsz hst (lv_room (pc := pc) (ls := ls) (rest := st) hroom) hdg ⟨hcs, hsl⟩) hS (fun q _ h => hFc q h) hFc (fun r2 u t H1 locs1 ht hvm hw2 hB hz1 hk1 hS1 => ?_)
  obtain ⟨hP1, hK1, hD1⟩ := hB
  rw [ht] at hP1
  obtain ⟨hP2, hD2⟩ := q_join hP hD hS hA isC isR hC hR hn2 hdis hwF hk1 hP1 hD1
  subst hw2
  exact kk H1 locs1 hP2 hD2 hS1
theorem q_lV (hF : CallFix p m c cc nL s args Ts own) (hA : ∀ q : Nat, s.heap.size ≤ q → A q) (hZ : QZ A s s.heap) (hK : va_K D vwCl T s) (hP : va_P D vwCl ws H) (hD : va_D A ws) (hS : va_S A s.heap H locs) {r : Int64} (hc : KL l y wd rm D T (.ref b :: As) wc wc' r)
    (hw : wd = Cond.code y bytes maxL ret :: wd') (hG : GoodIn Ts (wsV own index C y wd)) (hd : y.cls = C ∧ y.cls ≠ "java/lang/invoke/MethodHandle" ∧ y.cls ≠ "java/lang/invoke/VarHandle" ∧ (parseMethodDescriptor y.desc).map (fun d => d.parameters.length) = some As.length) (hrm : rm.cells = 0 ∧ rm.slots = 0) (hR1 : rm.frames + 1 ≤ R.frames) (hR2 : 8 + (maxL + 11) + rm.locals ≤ R.locals)
    (ci q0 : Nat) (hcl : vwCl[ci]? = some (C, TT, NN)) (he : wc[q0]? = some (b, .inr (ci, fs))) (isC isR : List Nat) (hC : isC.map (fun i => ws[i]?) = wc.map some) (hR : isR.all (fun i => Nat.blt i ws.length) = true) (hn : va_nd isC = true) (hn2 : va_nd isR = true) (hdis : ∀ i ∈ isR, i ∉ isC) (hwF : isR.filterMap (fun i => ws[i]?) ++ wc' = wF)
    (hsz : ls.size = nL) (hst : st = As.reverse ++ .ref b :: rest) (hroom : (rest.map fun v => v.category).sum ≤ 8) (hcs : cells ≤ R.cells) (hsl : slots ≤ R.slots) (hdg : decode cc pc = .ok (.invokevirtual index, 3))
    (kk : ∀ (H : Heap) (locs : List Loc), va_P D vwCl wF H → va_D A wF → va_S A s.heap H locs → W p l e R s m args below meth c H locs cells slots Q (F0 m (pc + 3) ls (.long r :: rest))) : W p l e R s m args below meth c H locs cells slots Q (F0 m pc ls st) := by
  have hPc := q_sub isC hP hC
  have hDc := hD.sub isC hn hC
  have hFc := va_free hD hS hA isC hC
  refine va_calll (va_runV (As := As) (rest := rest) hF (hc H.size) (cwV As.length hF.2.2.2.2 hG hw hrm.1 hrm.2 hd ⟨hR1, hR2⟩) ⟨QPc.blind, va_recv hK hPc hcl he, fun U hU hW => QPc.of hPc hK hDc hZ hS hFc U hU hW⟩ rfl rfl hsz hst (lv_room (pc := pc) (ls := ls) (rest := st) hroom) hdg ⟨hcs, hsl⟩) hS (fun q _ h => hFc q h) hFc (fun r2 u t H1 locs1 ht hvm hw2 hB hz1 hk1 hS1 => ?_)
  obtain ⟨hP1, hK1, hD1⟩ := hB
  rw [ht] at hP1
  obtain ⟨hP2, hD2⟩ := q_join hP hD hS hA isC isR hC hR hn2 hdis hwF hk1 hP1 hD1
  subst hw2
  exact kk H1 locs1 hP2 hD2 hS1
theorem q_vV (hF : CallFix p m c cc nL s args Ts own) (hA : ∀ q : Nat, s.heap.size ≤ q → A q) (hZ : QZ A s s.heap) (hK : va_K D vwCl T s) (hP : va_P D vwCl ws H) (hD : va_D A ws) (hS : va_S A s.heap H locs) (hc : KV l y wd rm D T (.ref b :: As) wc wc')
    (hw : wd = Cond.code y bytes maxL ret :: wd') (hG : GoodIn Ts (wsV own index C y wd)) (hd : y.cls = C ∧ y.cls ≠ "java/lang/invoke/MethodHandle" ∧ y.cls ≠ "java/lang/invoke/VarHandle" ∧ (parseMethodDescriptor y.desc).map (fun d => d.parameters.length) = some As.length) (hrm : rm.cells = 0 ∧ rm.slots = 0) (hR1 : rm.frames + 1 ≤ R.frames) (hR2 : 8 + (maxL + 11) + rm.locals ≤ R.locals)
    (ci q0 : Nat) (hcl : vwCl[ci]? = some (C, TT, NN)) (he : wc[q0]? = some (b, .inr (ci, fs))) (isC isR : List Nat) (hC : isC.map (fun i => ws[i]?) = wc.map some) (hR : isR.all (fun i => Nat.blt i ws.length) = true) (hn : va_nd isC = true) (hn2 : va_nd isR = true) (hdis : ∀ i ∈ isR, i ∉ isC) (hwF : isR.filterMap (fun i => ws[i]?) ++ wc' = wF)
    (hsz : ls.size = nL) (hst : st = As.reverse ++ .ref b :: rest) (hroom : (rest.map fun v => v.category).sum ≤ 8) (hcs : cells ≤ R.cells) (hsl : slots ≤ R.slots) (hdg : decode cc pc = .ok (.invokevirtual index, 3))
    (kk : ∀ (H : Heap) (locs : List Loc), va_P D vwCl wF H → va_D A wF → va_S A s.heap H locs → W p l e R s m args below meth c H locs cells slots Q (F0 m (pc + 3) ls rest)) : W p l e R s m args below meth c H locs cells slots Q (F0 m pc ls st) := by
  have hPc := q_sub isC hP hC
  have hDc := hD.sub isC hn hC
  have hFc := va_free hD hS hA isC hC
  refine va_callv (va_runV (As := As) (rest := rest) hF (hc H.size) (cwV As.length hF.2.2.2.2 hG hw hrm.1 hrm.2 hd ⟨hR1, hR2⟩) ⟨QPc.blind, va_recv hK hPc hcl he, fun U hU hW => QPc.of hPc hK hDc hZ hS hFc U hU hW⟩ rfl rfl hsz hst (lv_room (pc := pc) (ls := ls) (rest := st) hroom) hdg ⟨hcs, hsl⟩) hS (fun q _ h => hFc q h) hFc (fun u t H1 locs1 ht hvm hw2 hB hz1 hk1 hS1 => ?_)
  obtain ⟨hP1, hK1, hD1⟩ := hB
  rw [ht] at hP1
  obtain ⟨hP2, hD2⟩ := q_join hP hD hS hA isC isR hC hR hn2 hdis hwF hk1 hP1 hD1
  exact kk H1 locs1 hP2 hD2 hS1
theorem q_rV (hF : CallFix p m c cc nL s args Ts own) (hA : ∀ q : Nat, s.heap.size ≤ q → A q) (hZ : QZ A s s.heap) (hK : va_K D vwCl T s) (hP : va_P D vwCl ws H) (hD : va_D A ws) (hS : va_S A s.heap H locs) {r : Nat} (hc : KR l y wd rm D T (.ref b :: As) wc wc' r)
    (hw : wd = Cond.code y bytes maxL ret :: wd') (hG : GoodIn Ts (wsV own index C y wd)) (hd : y.cls = C ∧ y.cls ≠ "java/lang/invoke/MethodHandle" ∧ y.cls ≠ "java/lang/invoke/VarHandle" ∧ (parseMethodDescriptor y.desc).map (fun d => d.parameters.length) = some As.length) (hrm : rm.cells = 0 ∧ rm.slots = 0) (hR1 : rm.frames + 1 ≤ R.frames) (hR2 : 8 + (maxL + 11) + rm.locals ≤ R.locals)
    (ci q0 : Nat) (hcl : vwCl[ci]? = some (C, TT, NN)) (he : wc[q0]? = some (b, .inr (ci, fs))) (isC isR : List Nat) (hC : isC.map (fun i => ws[i]?) = wc.map some) (hR : isR.all (fun i => Nat.blt i ws.length) = true) (hn : va_nd isC = true) (hn2 : va_nd isR = true) (hdis : ∀ i ∈ isR, i ∉ isC) (hwF : isR.filterMap (fun i => ws[i]?) ++ wc' = wF)
    (hsz : ls.size = nL) (hst : st = As.reverse ++ .ref b :: rest) (hroom : (rest.map fun v => v.category).sum ≤ 8) (hcs : cells ≤ R.cells) (hsl : slots ≤ R.slots) (hdg : decode cc pc = .ok (.invokevirtual index, 3))
    (kk : ∀ (H : Heap) (locs : List Loc), va_P D vwCl wF H → va_D A wF → va_S A s.heap H locs → W p l e R s m args below meth c H locs cells slots Q (F0 m (pc + 3) ls (.ref r :: rest))) : W p l e R s m args below meth c H locs cells slots Q (F0 m pc ls st) := by
  have hPc := q_sub isC hP hC
  have hDc := hD.sub isC hn hC
  have hFc := va_free hD hS hA isC hC
  refine va_callr (va_runV (As := As) (rest := rest) hF (hc H.size) (cwV As.length hF.2.2.2.2 hG hw hrm.1 hrm.2 hd ⟨hR1, hR2⟩) ⟨QPc.blind, va_recv hK hPc hcl he, fun U hU hW => QPc.of hPc hK hDc hZ hS hFc U hU hW⟩ rfl rfl hsz hst (lv_room (pc := pc) (ls := ls) (rest := st) hroom) hdg ⟨hcs, hsl⟩) hS (fun q _ h => hFc q h) hFc (fun u ra t H1 locs1 ht hvm hw2 hB hz1 hk1 hS1 => ?_)
  obtain ⟨hra, hP1, hK1, hD1⟩ := hB
  rw [ht] at hP1
  obtain ⟨hP2, hD2⟩ := q_join hP hD hS hA isC isR hC hR hn2 hdis hwF hk1 hP1 hD1
  subst hra
  exact kk H1 locs1 hP2 hD2 hS1
theorem q_iS (hF : CallFix p m c cc nL s args Ts own) (hA : ∀ q : Nat, s.heap.size ≤ q → A q) (hZ : QZ A s s.heap) (hK : va_K D vwCl T s) (hP : va_P D vwCl ws H) (hD : va_D A ws) (hS : va_S A s.heap H locs) {r : Int32} (hc : KI l y wd rm D T As wc wc' r)
    (hw : wd = Cond.code y bytes maxL ret :: wd') (hG : GoodIn Ts (va_wsS own index y wd)) (hd : y.cls ≠ "java/lang/invoke/MethodHandle" ∧ y.cls ≠ "java/lang/invoke/VarHandle" ∧ (parseMethodDescriptor y.desc).map (fun d => d.parameters.length) = some As.length) (hrm : rm.cells = 0 ∧ rm.slots = 0) (hR1 : rm.frames + 1 ≤ R.frames) (hR2 : 8 + (maxL + 11) + rm.locals ≤ R.locals)
    (isC isR : List Nat) (hC : isC.map (fun i => ws[i]?) = wc.map some) (hR : isR.all (fun i => Nat.blt i ws.length) = true) (hn : va_nd isC = true) (hn2 : va_nd isR = true) (hdis : ∀ i ∈ isR, i ∉ isC) (hwF : isR.filterMap (fun i => ws[i]?) ++ wc' = wF)
    (hsz : ls.size = nL) (hst : st = As.reverse ++ rest) (hroom : (rest.map fun v => v.category).sum ≤ 8) (hcs : cells ≤ R.cells) (hsl : slots ≤ R.slots) (hdg : decode cc pc = .ok (.invokestatic index, 3))
    (kk : ∀ (H : Heap) (locs : List Loc), va_P D vwCl wF H → va_D A wF → va_S A s.heap H locs → W p l e R s m args below meth c H locs cells slots Q (F0 m (pc + 3) ls (.int r :: rest))) : W p l e R s m args below meth c H locs cells slots Q (F0 m pc ls st) := by
  have hPc := q_sub isC hP hC
  have hDc := hD.sub isC hn hC
  have hFc := va_free hD hS hA isC hC
  refine va_calli (va_runS (As := As) (rest := rest) hF (hc H.size) (va_cwS As.length hF.2.2.2.2 hG hw hrm.1 hrm.2 hd ⟨hR1, hR2⟩) ⟨QPc.blind, fun U hU hW => QPc.of hPc hK hDc hZ hS hFc U hU hW⟩ rfl rfl hsz hst (lv_room (pc := pc) (ls := ls) (rest := st) hroom) hdg ⟨hcs, hsl⟩) hS (fun q _ h => hFc q h) hFc (fun r2 u t H1 locs1 ht hvm hw2 hB hz1 hk1 hS1 => ?_)
  obtain ⟨hP1, hK1, hD1⟩ := hB
  rw [ht] at hP1
  obtain ⟨hP2, hD2⟩ := q_join hP hD hS hA isC isR hC hR hn2 hdis hwF hk1 hP1 hD1
  subst hw2
  exact kk H1 locs1 hP2 hD2 hS1
theorem q_vS (hF : CallFix p m c cc nL s args Ts own) (hA : ∀ q : Nat, s.heap.size ≤ q → A q) (hZ : QZ A s s.heap) (hK : va_K D vwCl T s) (hP : va_P D vwCl ws H) (hD : va_D A ws) (hS : va_S A s.heap H locs) (hc : KV l y wd rm D T As wc wc')
    (hw : wd = Cond.code y bytes maxL ret :: wd') (hG : GoodIn Ts (va_wsS own index y wd)) (hd : y.cls ≠ "java/lang/invoke/MethodHandle" ∧ y.cls ≠ "java/lang/invoke/VarHandle" ∧ (parseMethodDescriptor y.desc).map (fun d => d.parameters.length) = some As.length) (hrm : rm.cells = 0 ∧ rm.slots = 0) (hR1 : rm.frames + 1 ≤ R.frames) (hR2 : 8 + (maxL + 11) + rm.locals ≤ R.locals)
    (isC isR : List Nat) (hC : isC.map (fun i => ws[i]?) = wc.map some) (hR : isR.all (fun i => Nat.blt i ws.length) = true) (hn : va_nd isC = true) (hn2 : va_nd isR = true) (hdis : ∀ i ∈ isR, i ∉ isC) (hwF : isR.filterMap (fun i => ws[i]?) ++ wc' = wF)
    (hsz : ls.size = nL) (hst : st = As.reverse ++ rest) (hroom : (rest.map fun v => v.category).sum ≤ 8) (hcs : cells ≤ R.cells) (hsl : slots ≤ R.slots) (hdg : decode cc pc = .ok (.invokestatic index, 3))
    (kk : ∀ (H : Heap) (locs : List Loc), va_P D vwCl wF H → va_D A wF → va_S A s.heap H locs → W p l e R s m args below meth c H locs cells slots Q (F0 m (pc + 3) ls rest)) : W p l e R s m args below meth c H locs cells slots Q (F0 m pc ls st) := by
  have hPc := q_sub isC hP hC
  have hDc := hD.sub isC hn hC
  have hFc := va_free hD hS hA isC hC
  refine va_callv (va_runS (As := As) (rest := rest) hF (hc H.size) (va_cwS As.length hF.2.2.2.2 hG hw hrm.1 hrm.2 hd ⟨hR1, hR2⟩) ⟨QPc.blind, fun U hU hW => QPc.of hPc hK hDc hZ hS hFc U hU hW⟩ rfl rfl hsz hst (lv_room (pc := pc) (ls := ls) (rest := st) hroom) hdg ⟨hcs, hsl⟩) hS (fun q _ h => hFc q h) hFc (fun u t H1 locs1 ht hvm hw2 hB hz1 hk1 hS1 => ?_)
  obtain ⟨hP1, hK1, hD1⟩ := hB
  rw [ht] at hP1
  obtain ⟨hP2, hD2⟩ := q_join hP hD hS hA isC isR hC hR hn2 hdis hwF hk1 hP1 hD1
  exact kk H1 locs1 hP2 hD2 hS1
end QCALL
theorem q_tI {x : Int32} {n : Nat} (hn : n < 2 ^ 31) (h : x.toInt = (n : Int)) : x = Int32.ofNat n := by
  have h2 : (Int32.ofNat n).toInt = (n : Int) := nI_toInt hn
  exact Int32.toInt_inj.mp (h.trans h2.symm)
theorem q_out5 {x : Int32} (h0 : ¬ x = 0) (h1 : ¬ x = 1) (h2 : ¬ x = 2) (h3 : ¬ x = 3) (h4 : ¬ x = 4) : x.toInt < 0 ∨ 4 < x.toInt := by
  by_cases g : x.toInt < 0
  · exact Or.inl g
  · by_cases k : 4 < x.toInt
    · exact Or.inr k
    · have hc : x.toInt = ((0 : Nat) : Int) ∨ x.toInt = ((1 : Nat) : Int) ∨ x.toInt = ((2 : Nat) : Int) ∨ x.toInt = ((3 : Nat) : Int) ∨ x.toInt = ((4 : Nat) : Int) := by omega
      rcases hc with q | q | q | q | q
      · exact absurd (q_tI (by decide) q) h0
      · exact absurd (q_tI (by decide) q) h1
      · exact absurd (q_tI (by decide) q) h2
      · exact absurd (q_tI (by decide) q) h3
      · exact absurd (q_tI (by decide) q) h4
theorem q_out6 {x : Int32} (h0 : ¬ x = 0) (h1 : ¬ x = 1) (h2 : ¬ x = 2) (h3 : ¬ x = 3) (h4 : ¬ x = 4) (h5 : ¬ x = 5) : x.toInt < 0 ∨ 5 < x.toInt := by
  rcases q_out5 h0 h1 h2 h3 h4 with g | g
  · exact Or.inl g
  · by_cases k : 5 < x.toInt
    · exact Or.inr k
    · exact absurd (q_tI (n := 5) (by decide) (by omega)) h5
theorem bc_m10 : (Int8.ofInt (-10)).toInt32 = (-10) := by decide +kernel
theorem bc_m9 : (Int8.ofInt (-9)).toInt32 = (-9) := by decide +kernel
theorem bc_m3 : (Int8.ofInt (-3)).toInt32 = (-3) := by decide +kernel
theorem bc_m2 : (Int8.ofInt (-2)).toInt32 = (-2) := by decide +kernel
theorem bc_6 : (Int8.ofInt 6).toInt32 = 6 := by decide +kernel
theorem bc_7 : (Int8.ofInt 7).toInt32 = 7 := by decide +kernel
theorem bc_8 : (Int8.ofInt 8).toInt32 = 8 := by decide +kernel
theorem bc_9 : (Int8.ofInt 9).toInt32 = 9 := by decide +kernel
theorem bc_10 : (Int8.ofInt 10).toInt32 = 10 := by decide +kernel
theorem bc_16 : (Int8.ofInt 16).toInt32 = 16 := by decide +kernel
theorem bc_23 : (Int8.ofInt 23).toInt32 = 23 := by decide +kernel
theorem bc_27 : (Int8.ofInt 27).toInt32 = 27 := by decide +kernel
theorem bc_30 : (Int8.ofInt 30).toInt32 = 30 := by decide +kernel
theorem bc_32 : (Int8.ofInt 32).toInt32 = 32 := by decide +kernel
theorem bc_38 : (Int8.ofInt 38).toInt32 = 38 := by decide +kernel
theorem bc_40 : (Int8.ofInt 40).toInt32 = 40 := by decide +kernel
theorem bc_41 : (Int8.ofInt 41).toInt32 = 41 := by decide +kernel
theorem bc_48 : (Int8.ofInt 48).toInt32 = 48 := by decide +kernel
theorem bc_57 : (Int8.ofInt 57).toInt32 = 57 := by decide +kernel
theorem bc_59 : (Int8.ofInt 59).toInt32 = 59 := by decide +kernel
theorem bc_63 : (Int8.ofInt 63).toInt32 = 63 := by decide +kernel
theorem bc_96 : (Int8.ofInt 96).toInt32 = 96 := by decide +kernel
theorem bc_97 : (Int8.ofInt 97).toInt32 = 97 := by decide +kernel
theorem bc_99 : (Int8.ofInt 99).toInt32 = 99 := by decide +kernel
theorem bc_119 : (Int8.ofInt 119).toInt32 = 119 := by decide +kernel
theorem bc_122 : (Int8.ofInt 122).toInt32 = 122 := by decide +kernel
theorem bc_124 : (Int8.ofInt 124).toInt32 = 124 := by decide +kernel
theorem ic_m1 : Int32.ofInt (-1) = (-1) := by decide +kernel
theorem ic_0 : Int32.ofInt 0 = 0 := by decide +kernel
theorem ic_1 : Int32.ofInt 1 = 1 := by decide +kernel
theorem ic_2 : Int32.ofInt 2 = 2 := by decide +kernel
theorem ic_3 : Int32.ofInt 3 = 3 := by decide +kernel
theorem ic_4 : Int32.ofInt 4 = 4 := by decide +kernel
theorem ic_5 : Int32.ofInt 5 = 5 := by decide +kernel
theorem sc_200 : (Int16.ofInt 200).toInt32 = 200 := by decide +kernel
theorem sc_255 : (Int16.ofInt 255).toInt32 = 255 := by decide +kernel
theorem sc_512 : (Int16.ofInt 512).toInt32 = 512 := by decide +kernel
/-! the one String constant: its length, its chars -/
def chs (k : Nat) : Int32 := ([99, 104, 111, 105, 99, 101] : List Int32).getD k 0
theorem chs_c : ∀ k, k < 6 → (((chs k &&& 255).toUInt32 % 65536).toInt32) = chs k ∧ narrow .char (.int (chs k)) = .int (chs k) := by decide +kernel
def QS (A : Nat → Prop) (b v : Nat) (U : State) (H : Heap) : Prop := va_O "java/lang/String" b A U H ∧ va_OF "java/lang/String" "coder" "B" (.int 0) b A U H ∧ va_OF "java/lang/String" "value" "[B" (.ref v) b A U H ∧ va_T .byte v 6 (fun j => .int (chs j)) A U H ∧ va_Z "java/lang/String" "COMPACT_STRINGS" "Z" (.int 1) A U H ∧ va_Zq "jdk/internal/util/Preconditions" "SIOOBE_FORMATTER" "Ljava/util/function/BiFunction;" A U H
theorem QS.of {A : Nat → Prop} {U : State} {H : Heap} (h : QZ A U H) : ∃ b v : Nat, QS A b v U H ∧ vk_R "NoWordNo$Tokens" 49 "choice" b U := by
  obtain ⟨⟨adK, adV, h1, h2⟩, h3, h4⟩ := h
  obtain ⟨g1, g2, g3, g4⟩ := h1.1 0 (by decide)
  exact ⟨adK 0, adV 0, ⟨g1, g2, g3, g4, h3, h4⟩, h2⟩
theorem QS.moved {A : Nat → Prop} {b v : Nat} {u U : State} {H : Heap} (hvm : u.vm.Alike U.vm) (h : QS A b v u H) : QS A b v U H := ⟨va_O.moved hvm h.1, va_OF.moved hvm h.2.1, va_OF.moved hvm h.2.2.1, va_T.moved hvm h.2.2.2.1, va_Z.moved hvm h.2.2.2.2.1, va_Zq.moved hvm h.2.2.2.2.2⟩
theorem QS.pass {A B : Nat → Prop} {b v : Nat} {s U : State} {H : Heap} {locs : List Loc} (h : QS A b v s s.heap) (hS : va_S A s.heap H locs) (hAB : ∀ q, B q → A q) (hU : U.heap = H) (hW : s.WarmedH U.vm) : QS B b v U U.heap := by
  rw [hU]
  exact QS.moved hW.alike ⟨(h.1.kept hS.2.1).narrow hAB, (h.2.1.kept hS.2.1).narrow hAB, (h.2.2.1.kept hS.2.1).narrow hAB, (h.2.2.2.1.kept hS.2.1).narrow hAB, (h.2.2.2.2.1.kept hS.2.1).narrow hAB, (h.2.2.2.2.2.kept hS.2.1).narrow hAB⟩
def QSP (b v : Nat) (sz : Nat) (av : List Value) : Array Value → State → Prop := va_Pc av (fun U => U.heap.size = sz ∧ QS (fun q => sz ≤ q) b v U U.heap)
theorem QSP.blind {b v : Nat} {sz : Nat} {av : List Value} : FrameBlind (QSP b v sz av) := fun a U g mk q => by
  obtain ⟨q0, q1, qZ⟩ := q
  exact ⟨q0, q1, QS.moved (u := U) (Vm.Alike.refl U.vm) qZ⟩
def KS (l : Launch) (y : MethodName) (wd : List Cond) (rm : Room) (b v : Nat) (av : List Value) (r : Int32) : Prop := ∀ sz : Nat, Met l y wd rm (QSP b v sz av) (va_Qi (fun (r2 : Int32) (_ : Unit) => r2 = r) (fun _ _ => True) (fun q => sz ≤ q)) 0 0 (fun q => sz ≤ q)
def KSv (l : Launch) (y : MethodName) (wd : List Cond) (rm : Room) (b v : Nat) (av : List Value) : Prop := ∀ sz : Nat, Met l y wd rm (QSP b v sz av) (va_Qv (fun (_ : Unit) => True) (fun _ _ => True) (fun q => sz ≤ q)) 0 0 (fun q => sz ≤ q)
theorem QS_of {l : Launch} {y : MethodName} {own : String} {wd wd' : List Cond} {rm : Room} {b v : Nat} {av : List Value} {sz : Nat} {cc : ByteArray} {maxL : Nat} {ret : Option FieldType} {Qc : (Nat → Prop) → Array Value → State → Outcome → State → Prop}
    (hy : plainName y.cls = true) (ho : y.cls = own) (hw : wd = Cond.code y cc maxL ret :: wd') (hn : (lg_sl av).length ≤ maxL)
    (body : ∀ (p : Program) (e : Env) (s : State) (m : MethodId) (args : Array Value) (below : List Frame) (meth : Method) (c : Code) (A : Nat → Prop), p.tables.exec = Jvm.exec → c.code = cc → meth.sig.returnType = ret → c.maxLocals = maxL → s.vm.findClass own = some m.cls → (∀ w ∈ wd, w.before args s = true) → meth.locks = false → (∀ q : Nat, s.heap.size ≤ q → A q) → QS A b v s s.heap →
      ∀ (H : Heap) (locs : List Loc) (ls : Array Slot), va_S A s.heap H locs → lv_has ls maxL (lv_args 0 av) → W p l e rm s m args below meth c H locs 0 0 (MQ below (Qc A) args s 0 0 A) (F0 m 0 ls [])) :
    Met l y wd rm (QSP b v sz av) (Qc (fun q => sz ≤ q)) 0 0 (fun q => sz ≤ q) := by
  refine Met.ofW (cc := cc) (maxL := maxL) (ret := ret) hy hw ?_
  intro p e s m args below meth c s₁ B hml hv
  obtain ⟨rfl, hsz, hZ⟩ := hv
  have hown : s.vm.findClass own = some m.cls := ho ▸ findClass_of_methodNamed B.named
  have hl := lv_entry av (n := maxL) hn
  rw [lg_entry_eq]
  generalize (lg_sl av ++ List.replicate (maxL - (lg_sl av).length) Slot.unset).toArray = ls at hl ⊢
  subst hsz
  exact body p e s m _ below meth c _ B.exec B.bytes B.returns hml hown (atoms_spec (ws := wd) B.pre) B.notSynchronized (fun q h => h) hZ s.heap [] ls va_S.rf hl
theorem KS_of {l : Launch} {y : MethodName} {own : String} {wd wd' : List Cond} {rm : Room} {b v : Nat} {av : List Value} {r : Int32} {cc : ByteArray} {maxL : Nat} {rt : FieldType} (hy : plainName y.cls = true) (ho : y.cls = own) (hw : wd = Cond.code y cc maxL (some rt) :: wd') (hn : (lg_sl av).length ≤ maxL) (hnr : narrow rt (.int r) = .int r)
    (body : ∀ (p : Program) (e : Env) (s : State) (m : MethodId) (args : Array Value) (below : List Frame) (meth : Method) (c : Code) (A : Nat → Prop) (Q : State → Prop), p.tables.exec = Jvm.exec → c.code = cc → c.maxLocals = maxL → s.vm.findClass own = some m.cls → (∀ w ∈ wd, w.before args s = true) → (∀ q : Nat, s.heap.size ≤ q → A q) → QS A b v s s.heap →
      (∀ (H : Heap) (locs : List Loc) (pc : Nat) (ls : Array Slot), va_S A s.heap H locs → decode cc pc = .ok (.ireturn, 1) → W p l e rm s m args below meth c H locs 0 0 Q (F0 m pc ls [.int r])) →
      ∀ (H : Heap) (locs : List Loc) (ls : Array Slot), va_S A s.heap H locs → lv_has ls maxL (lv_args 0 av) → W p l e rm s m args below meth c H locs 0 0 Q (F0 m 0 ls [])) :
    KS l y wd rm b v av r := by
  intro sz
  refine QS_of (own := own) (cc := cc) (maxL := maxL) (ret := some rt) (Qc := fun A => va_Qi (fun (r2 : Int32) (_ : Unit) => r2 = r) (fun _ _ => True) A) hy ho hw hn ?_
  intro p e s m args below meth c A hx hb hr hml hown hts hlocks hA hZ H locs ls hS hl
  refine body p e s m args below meth c A _ hx hb hml hown hts hA hZ ?_ H locs ls hS hl
  intro H locs pc ls hS hd
  exact W.zret (v := r) hx hb hr hnr (fun t ht hW => ⟨⟨r, (), rfl, rfl, trivial⟩, hS.F ht⟩) hS.2.2 hd
theorem KSv_of {l : Launch} {y : MethodName} {own : String} {wd wd' : List Cond} {rm : Room} {b v : Nat} {av : List Value} {cc : ByteArray} {maxL : Nat} (hy : plainName y.cls = true) (ho : y.cls = own) (hw : wd = Cond.code y cc maxL none :: wd') (hn : (lg_sl av).length ≤ maxL)
    (body : ∀ (p : Program) (e : Env) (s : State) (m : MethodId) (args : Array Value) (below : List Frame) (meth : Method) (c : Code) (A : Nat → Prop) (Q : State → Prop), p.tables.exec = Jvm.exec → c.code = cc → c.maxLocals = maxL → s.vm.findClass own = some m.cls → (∀ w ∈ wd, w.before args s = true) → (∀ q : Nat, s.heap.size ≤ q → A q) → QS A b v s s.heap →
      (∀ (H : Heap) (locs : List Loc) (pc : Nat) (ls : Array Slot), va_S A s.heap H locs → decode cc pc = .ok (.return_, 1) → W p l e rm s m args below meth c H locs 0 0 Q (F0 m pc ls [])) →
      ∀ (H : Heap) (locs : List Loc) (ls : Array Slot), va_S A s.heap H locs → lv_has ls maxL (lv_args 0 av) → W p l e rm s m args below meth c H locs 0 0 Q (F0 m 0 ls [])) :
    KSv l y wd rm b v av := by
  intro sz
  refine QS_of (own := own) (cc := cc) (maxL := maxL) (ret := none) (Qc := fun A => va_Qv (fun (_ : Unit) => True) (fun _ _ => True) A) hy ho hw hn ?_
  intro p e s m args below meth c A hx hb hr hml hown hts hlocks hA hZ H locs ls hS hl
  refine body p e s m args below meth c A _ hx hb hml hown hts hA hZ ?_ H locs ls hS hl
  intro H locs pc ls hS hd
  exact W.vret hx hb hr (fun t ht hW => ⟨⟨(), rfl, trivial, trivial⟩, hS.F ht⟩) hS.2.2 hd
section SCALL
variable {p : Program} {l : Launch} {e : Env} {R : Room} {s : State} {m : MethodId} {args : Array Value} {below : List Frame} {meth : Method} {c : Code} {H : Heap} {locs : List Loc} {cells slots : Nat} {Q : State → Prop}
  {cc : ByteArray} {nL : Nat} {Ts : List Cond} {own : String} {A : Nat → Prop}
  {y : MethodName} {wd wd' : List Cond} {rm : Room} {As rest st : List Value} {b v : Nat} {bytes : ByteArray} {maxL index : Nat} {ret : Option FieldType} {C : String} {ls : Array Slot} {pc : Nat}
theorem s_iV (hF : CallFix p m c cc nL s args Ts own) (hA : ∀ q : Nat, s.heap.size ≤ q → A q) (hZ : QS A b v s s.heap) (hS : va_S A s.heap H locs) {r : Int32} (hc : KS l y wd rm b v (.ref b :: As) r)
    (hw : wd = Cond.code y bytes maxL ret :: wd') (hG : GoodIn Ts (wsV own index C y wd)) (hd : y.cls = C ∧ y.cls ≠ "java/lang/invoke/MethodHandle" ∧ y.cls ≠ "java/lang/invoke/VarHandle" ∧ (parseMethodDescriptor y.desc).map (fun d => d.parameters.length) = some As.length) (hC : C = "java/lang/String") (hrm : rm.cells = 0 ∧ rm.slots = 0) (hR1 : rm.frames + 1 ≤ R.frames) (hR2 : 8 + (maxL + 11) + rm.locals ≤ R.locals)
    (hsz : ls.size = nL) (hst : st = As.reverse ++ .ref b :: rest) (hroom : (rest.map fun v => v.category).sum ≤ 8) (hcs : cells ≤ R.cells) (hsl : slots ≤ R.slots) (hdg : decode cc pc = .ok (.invokevirtual index, 3))
    (kk : ∀ (H1 : Heap) (locs : List Loc), (∀ q : Nat, q < H.size → H1[q]? = H[q]?) → va_S A s.heap H1 locs → W p l e R s m args below meth c H1 locs cells slots Q (F0 m (pc + 3) ls (.int r :: rest))) : W p l e R s m args below meth c H locs cells slots Q (F0 m pc ls st) := by
  have hFc : ∀ q, H.size ≤ q → A q := fun q h => hA q (Nat.le_trans hS.1 h)
  have hrv : ∃ cell : Cell, H[b]? = some cell ∧ cell.vm.isStatics = false ∧ s.vm.findClass C = some cell.cls := by
    obtain ⟨cell, g1, g2, g3, -⟩ := hZ.1.kept hS.2.1
    exact ⟨cell, g1, g2, by rw [hC]; exact g3⟩
  refine va_calli (va_runV (As := As) (rest := rest) hF (hc H.size) (cwV As.length hF.2.2.2.2 hG hw hrm.1 hrm.2 hd ⟨hR1, hR2⟩) ⟨QSP.blind, hrv, fun U hU hW => ⟨rfl, by rw [hU], hZ.pass hS hFc hU hW⟩⟩ rfl rfl hsz hst (lv_room (pc := pc) (ls := ls) (rest := st) hroom) hdg ⟨hcs, hsl⟩) hS (fun q _ h => hFc q h) hFc (fun r2 u t H1 locs1 ht hvm hw2 hB hz1 hk1 hS1 => ?_)
  subst hw2
  exact kk H1 locs1 (fun q h => hk1 q h (by omega)) hS1
theorem s_iS (hF : CallFix p m c cc nL s args Ts own) (hA : ∀ q : Nat, s.heap.size ≤ q → A q) (hZ : QS A b v s s.heap) (hS : va_S A s.heap H locs) {r : Int32} (hc : KS l y wd rm b v As r)
    (hw : wd = Cond.code y bytes maxL ret :: wd') (hG : GoodIn Ts (va_wsS own index y wd)) (hd : y.cls ≠ "java/lang/invoke/MethodHandle" ∧ y.cls ≠ "java/lang/invoke/VarHandle" ∧ (parseMethodDescriptor y.desc).map (fun d => d.parameters.length) = some As.length) (hrm : rm.cells = 0 ∧ rm.slots = 0) (hR1 : rm.frames + 1 ≤ R.frames) (hR2 : 8 + (maxL + 11) + rm.locals ≤ R.locals)
    (hsz : ls.size = nL) (hst : st = As.reverse ++ rest) (hroom : (rest.map fun v => v.category).sum ≤ 8) (hcs : cells ≤ R.cells) (hsl : slots ≤ R.slots) (hdg : decode cc pc = .ok (.invokestatic index, 3))
    (kk : ∀ (H1 : Heap) (locs : List Loc), va_S A s.heap H1 locs → W p l e R s m args below meth c H1 locs cells slots Q (F0 m (pc + 3) ls (.int r :: rest))) : W p l e R s m args below meth c H locs cells slots Q (F0 m pc ls st) := by
  have hFc : ∀ q, H.size ≤ q → A q := fun q h => hA q (Nat.le_trans hS.1 h)
  refine va_calli (va_runS (As := As) (rest := rest) hF (hc H.size) (va_cwS As.length hF.2.2.2.2 hG hw hrm.1 hrm.2 hd ⟨hR1, hR2⟩) ⟨QSP.blind, fun U hU hW => ⟨rfl, by rw [hU], hZ.pass hS hFc hU hW⟩⟩ rfl rfl hsz hst (lv_room (pc := pc) (ls := ls) (rest := st) hroom) hdg ⟨hcs, hsl⟩) hS (fun q _ h => hFc q h) hFc (fun r2 u t H1 locs1 ht hvm hw2 hB hz1 hk1 hS1 => ?_)
  subst hw2
  exact kk H1 locs1 hS1
theorem s_vS (hF : CallFix p m c cc nL s args Ts own) (hA : ∀ q : Nat, s.heap.size ≤ q → A q) (hZ : QS A b v s s.heap) (hS : va_S A s.heap H locs) (hc : KSv l y wd rm b v As)
    (hw : wd = Cond.code y bytes maxL ret :: wd') (hG : GoodIn Ts (va_wsS own index y wd)) (hd : y.cls ≠ "java/lang/invoke/MethodHandle" ∧ y.cls ≠ "java/lang/invoke/VarHandle" ∧ (parseMethodDescriptor y.desc).map (fun d => d.parameters.length) = some As.length) (hrm : rm.cells = 0 ∧ rm.slots = 0) (hR1 : rm.frames + 1 ≤ R.frames) (hR2 : 8 + (maxL + 11) + rm.locals ≤ R.locals)
    (hsz : ls.size = nL) (hst : st = As.reverse ++ rest) (hroom : (rest.map fun v => v.category).sum ≤ 8) (hcs : cells ≤ R.cells) (hsl : slots ≤ R.slots) (hdg : decode cc pc = .ok (.invokestatic index, 3))
    (kk : ∀ (H1 : Heap) (locs : List Loc), va_S A s.heap H1 locs → W p l e R s m args below meth c H1 locs cells slots Q (F0 m (pc + 3) ls rest)) : W p l e R s m args below meth c H locs cells slots Q (F0 m pc ls st) := by
  have hFc : ∀ q, H.size ≤ q → A q := fun q h => hA q (Nat.le_trans hS.1 h)
  refine va_callv (va_runS (As := As) (rest := rest) hF (hc H.size) (va_cwS As.length hF.2.2.2.2 hG hw hrm.1 hrm.2 hd ⟨hR1, hR2⟩) ⟨QSP.blind, fun U hU hW => ⟨rfl, by rw [hU], hZ.pass hS hFc hU hW⟩⟩ rfl rfl hsz hst (lv_room (pc := pc) (ls := ls) (rest := st) hroom) hdg ⟨hcs, hsl⟩) hS (fun q _ h => hFc q h) hFc (fun u t H1 locs1 ht hvm hw2 hB hz1 hk1 hS1 => ?_)
  exact kk H1 locs1 hS1
end SCALL
abbrev rmJ0_0 : Room := { frames := 0, cells := 0, slots := 0, locals := 0 }
abbrev rmJ0_1 : Room := { frames := 1, cells := 0, slots := 0, locals := 22 }
abbrev rmJ0_2 : Room := { frames := 2, cells := 0, slots := 0, locals := 43 }
abbrev rmJ0_3 : Room := { frames := 3, cells := 0, slots := 0, locals := 64 }
theorem hdJ0_coder : yJ0_coder_7d493.cls = RJ0 ∧ yJ0_coder_7d493.cls ≠ "java/lang/invoke/MethodHandle" ∧ yJ0_coder_7d493.cls ≠ "java/lang/invoke/VarHandle" ∧ (parseMethodDescriptor yJ0_coder_7d493.desc).map (fun d => d.parameters.length) = some 0 := by decide +kernel
theorem hdJ0_isLatin1 : yJ0_isLatin1_aae02.cls = RJ0 ∧ yJ0_isLatin1_aae02.cls ≠ "java/lang/invoke/MethodHandle" ∧ yJ0_isLatin1_aae02.cls ≠ "java/lang/invoke/VarHandle" ∧ (parseMethodDescriptor yJ0_isLatin1_aae02.desc).map (fun d => d.parameters.length) = some 0 := by decide +kernel
theorem hdJ0_length : yJ0_length_8abf5.cls = RJ0 ∧ yJ0_length_8abf5.cls ≠ "java/lang/invoke/MethodHandle" ∧ yJ0_length_8abf5.cls ≠ "java/lang/invoke/VarHandle" ∧ (parseMethodDescriptor yJ0_length_8abf5.desc).map (fun d => d.parameters.length) = some 0 := by decide +kernel
theorem hdJ0_charAt : yJ0_charAt_5068e.cls = RJ0 ∧ yJ0_charAt_5068e.cls ≠ "java/lang/invoke/MethodHandle" ∧ yJ0_charAt_5068e.cls ≠ "java/lang/invoke/VarHandle" ∧ (parseMethodDescriptor yJ0_charAt_5068e.desc).map (fun d => d.parameters.length) = some 1 := by decide +kernel
theorem hdJ3_check : yJ3_checkIndex_8e157.cls ≠ "java/lang/invoke/MethodHandle" ∧ yJ3_checkIndex_8e157.cls ≠ "java/lang/invoke/VarHandle" ∧ (parseMethodDescriptor yJ3_checkIndex_8e157.desc).map (fun d => d.parameters.length) = some 3 := by decide +kernel
theorem hdJ0_check : yJ0_checkIndex_df160.cls ≠ "java/lang/invoke/MethodHandle" ∧ yJ0_checkIndex_df160.cls ≠ "java/lang/invoke/VarHandle" ∧ (parseMethodDescriptor yJ0_checkIndex_df160.desc).map (fun d => d.parameters.length) = some 2 := by decide +kernel
theorem hdJ1_charAt : yJ1_charAt_3b067.cls ≠ "java/lang/invoke/MethodHandle" ∧ yJ1_charAt_3b067.cls ≠ "java/lang/invoke/VarHandle" ∧ (parseMethodDescriptor yJ1_charAt_3b067.desc).map (fun d => d.parameters.length) = some 2 := by decide +kernel
set_option maxRecDepth 100000 in
set_option maxHeartbeats 4000000 in
theorem c_J0_coder (l : Launch) (b v : Nat) : KS l yJ0_coder_7d493 wsJ0_coder_7d493 rmJ0_0 b v [.ref b] 0 := by
  refine KS_of (own := RJ0) (cc := cJ0_coder_7d493) (maxL := 1) (by decide) rfl rfl (Nat.le_of_ble_eq_true rfl) rfl ?_
  intro p e s m args below meth c A Q hx hb hml hown hts hA hZ hret H locs ls hS hl
  have hl : lv_has ls 1 [(0, .ref b)] := hl
  have k0 := hts (.fieldLink RJ0 38 "java/lang/String" "COMPACT_STRINGS" "Z") (by decide +kernel)
  have k1 := hts (.fieldLink RJ0 15 "java/lang/String" "coder" "B") (by decide +kernel)
  refine va_gets (v := .int 1) hx hb hZ.2.2.2.2.1 hS hown k0 (fun _ h9 => h9) dJ0_coder_7d493_0 ?_
  refine lv_if_eq (tgt := 13) hx hb dJ0_coder_7d493_3 (by decide) (fun c_3 => absurd c_3 (by decide)) (fun c_3 => ?_)
  refine lv_aload_n hx hb dJ0_coder_7d493_6 rfl (lv_at hl 0 rfl) ?_
  refine vk_getf (v := .int 0) hx hb hZ.2.1 hS hown k1 (fun _ h9 => h9) dJ0_coder_7d493_7 ?_
  refine lv_goto (tgt := 14) hx hb dJ0_coder_7d493_10 (by decide) ?_
  exact hret H locs 14 ls hS dJ0_coder_7d493_14
set_option maxRecDepth 100000 in
set_option maxHeartbeats 4000000 in
theorem c_J0_isLatin1 (l : Launch) (b v : Nat) : KS l yJ0_isLatin1_aae02 wsJ0_isLatin1_aae02 rmJ0_0 b v [.ref b] 1 := by
  refine KS_of (own := RJ0) (cc := cJ0_isLatin1_aae02) (maxL := 1) (by decide) rfl rfl (Nat.le_of_ble_eq_true rfl) rfl ?_
  intro p e s m args below meth c A Q hx hb hml hown hts hA hZ hret H locs ls hS hl
  have hl : lv_has ls 1 [(0, .ref b)] := hl
  have k0 := hts (.fieldLink RJ0 38 "java/lang/String" "COMPACT_STRINGS" "Z") (by decide +kernel)
  have k1 := hts (.fieldLink RJ0 15 "java/lang/String" "coder" "B") (by decide +kernel)
  refine va_gets (v := .int 1) hx hb hZ.2.2.2.2.1 hS hown k0 (fun _ h9 => h9) dJ0_isLatin1_aae02_0 ?_
  refine lv_if_eq (tgt := 17) hx hb dJ0_isLatin1_aae02_3 (by decide) (fun c_3 => absurd c_3 (by decide)) (fun c_3 => ?_)
  refine lv_aload_n hx hb dJ0_isLatin1_aae02_6 rfl (lv_at hl 0 rfl) ?_
  refine vk_getf (v := .int 0) hx hb hZ.2.1 hS hown k1 (fun _ h9 => h9) dJ0_isLatin1_aae02_7 ?_
  refine lv_if_ne (tgt := 17) hx hb dJ0_isLatin1_aae02_10 (by decide) (fun c_3 => absurd rfl c_3) (fun c_3 => ?_)
  refine lv_iconst (v := 1) hx hb dJ0_isLatin1_aae02_13 ic_1 ?_
  refine lv_goto (tgt := 18) hx hb dJ0_isLatin1_aae02_14 (by decide) ?_
  exact hret H locs 18 ls hS dJ0_isLatin1_aae02_18
set_option maxRecDepth 100000 in
set_option maxHeartbeats 4000000 in
theorem c_J0_length (l : Launch) (b v : Nat) : KS l yJ0_length_8abf5 wsJ0_length_8abf5 rmJ0_1 b v [.ref b] 6 := by
  refine KS_of (own := RJ0) (cc := cJ0_length_8abf5) (maxL := 1) (by decide) rfl rfl (Nat.le_of_ble_eq_true rfl) rfl ?_
  intro p e s m args below meth c A Q hx hb hml hown hts hA hZ hret H locs ls hS hl
  have hl : lv_has ls 1 [(0, .ref b)] := hl
  have hF : CallFix p m c cJ0_length_8abf5 1 s args wsJ0_length_8abf5 RJ0 := ⟨hx, hb, hml, hown, hts⟩
  have k1 := hts (.fieldLink RJ0 9 "java/lang/String" "value" "[B") (by decide +kernel)
  refine lv_aload_n hx hb dJ0_length_8abf5_0 rfl (lv_at hl 0 rfl) ?_
  refine vk_getf (v := .ref v) hx hb hZ.2.2.1 hS hown k1 (fun _ h9 => h9) dJ0_length_8abf5_1 ?_
  refine va_tlen hx hb hZ.2.2.2.1 hS (v := 6) (by decide) dJ0_length_8abf5_4 ?_
  refine lv_aload_n hx hb dJ0_length_8abf5_5 rfl (lv_at hl 0 rfl) ?_
  refine s_iV (As := []) (rest := [.int 6]) hF hA hZ hS (c_J0_coder l b v) rfl gJ0_length_8abf5_J0_coder_7d493 hdJ0_coder rfl ⟨rfl, rfl⟩ (Nat.le_of_ble_eq_true rfl) (Nat.le_of_ble_eq_true rfl) hl.1 rfl (Nat.le_of_ble_eq_true rfl) (Nat.zero_le _) (Nat.zero_le _) dJ0_length_8abf5_6 (fun H locs _ hS => ?_)
  refine lv_ishr hx hb dJ0_length_8abf5_9 ?_
  refine lv_topi (fun y ey => ?_)
  have e6 : y = 6 := by rw [ey]; decide
  subst e6
  exact hret H locs 10 ls hS dJ0_length_8abf5_10
set_option maxRecDepth 100000 in
set_option maxHeartbeats 4000000 in
theorem c_J3_check (l : Launch) (b v : Nat) (i n : Int32) (w : Value) (hw : (lg_sl [.int i, .int n, w]).length ≤ 3) (h0 : ¬ i < 0) (h1 : i < n) : KS l yJ3_checkIndex_8e157 wsJ3_checkIndex_8e157 rmJ0_0 b v [.int i, .int n, w] i := by
  refine KS_of (own := RJ3) (cc := cJ3_checkIndex_8e157) (maxL := 3) (by decide) rfl rfl hw rfl ?_
  intro p e s m args below meth c A Q hx hb hml hown hts hA hZ hret H locs ls hS hl
  have hl : lv_has ls 3 [(0, .int i), (1, .int n), (2, w)] := hl
  refine lv_iload_n hx hb dJ3_checkIndex_8e157_0 rfl (lv_at hl 0 rfl) ?_
  refine lv_if_lt (tgt := 9) hx hb dJ3_checkIndex_8e157_1 (by decide) (fun c_3 => absurd c_3 h0) (fun c_3 => ?_)
  refine lv_iload_n hx hb dJ3_checkIndex_8e157_4 rfl (lv_at hl 0 rfl) ?_
  refine lv_iload_n hx hb dJ3_checkIndex_8e157_5 rfl (lv_at hl 1 rfl) ?_
  refine lv_icmp_lt (tgt := 16) hx hb dJ3_checkIndex_8e157_6 (by decide) (fun c_3 => ?_) (fun c_3 => absurd h1 c_3)
  refine lv_iload_n hx hb dJ3_checkIndex_8e157_16 rfl (lv_at hl 0 rfl) ?_
  exact hret H locs 17 ls hS dJ3_checkIndex_8e157_17
set_option maxRecDepth 100000 in
set_option maxHeartbeats 4000000 in
theorem c_J0_check (l : Launch) (b v : Nat) (i n : Int32) (h0 : ¬ i < 0) (h1 : i < n) : KSv l yJ0_checkIndex_df160 wsJ0_checkIndex_df160 rmJ0_1 b v [.int i, .int n] := by
  refine KSv_of (own := RJ0) (cc := cJ0_checkIndex_df160) (maxL := 2) (by decide) rfl rfl (Nat.le_of_ble_eq_true rfl) ?_
  intro p e s m args below meth c A Q hx hb hml hown hts hA hZ hret H locs ls hS hl
  have hl : lv_has ls 2 [(0, .int i), (1, .int n)] := hl
  have hF : CallFix p m c cJ0_checkIndex_df160 2 s args wsJ0_checkIndex_df160 RJ0 := ⟨hx, hb, hml, hown, hts⟩
  have k1 := hts (.fieldLink RJ0 1053 "jdk/internal/util/Preconditions" "SIOOBE_FORMATTER" "Ljava/util/function/BiFunction;") (by decide +kernel)
  refine lv_iload_n hx hb dJ0_checkIndex_df160_0 rfl (lv_at hl 0 rfl) ?_
  refine lv_iload_n hx hb dJ0_checkIndex_df160_1 rfl (lv_at hl 1 rfl) ?_
  rcases hZ.2.2.2.2.2 with hq | ⟨t, hq⟩
  · refine va_gets (v := .null) hx hb hq hS hown k1 (fun _ h9 => h9) dJ0_checkIndex_df160_2 ?_
    refine s_iS (As := [.int i, .int n, .null]) (rest := []) hF hA hZ hS (c_J3_check l b v i n .null (Nat.le_of_ble_eq_true rfl) h0 h1) rfl gJ0_checkIndex_df160_J3_checkIndex_8e157 hdJ3_check ⟨rfl, rfl⟩ (Nat.le_of_ble_eq_true rfl) (Nat.le_of_ble_eq_true rfl) hl.1 rfl (Nat.le_of_ble_eq_true rfl) (Nat.zero_le _) (Nat.zero_le _) dJ0_checkIndex_df160_5 (fun H locs hS => ?_)
    refine lv_pop hx hb dJ0_checkIndex_df160_8 rfl ?_
    exact hret H locs 9 ls hS dJ0_checkIndex_df160_9
  · refine va_gets (v := .ref t) hx hb hq hS hown k1 (fun _ h9 => h9) dJ0_checkIndex_df160_2 ?_
    refine s_iS (As := [.int i, .int n, .ref t]) (rest := []) hF hA hZ hS (c_J3_check l b v i n (.ref t) (Nat.le_of_ble_eq_true rfl) h0 h1) rfl gJ0_checkIndex_df160_J3_checkIndex_8e157 hdJ3_check ⟨rfl, rfl⟩ (Nat.le_of_ble_eq_true rfl) (Nat.le_of_ble_eq_true rfl) hl.1 rfl (Nat.le_of_ble_eq_true rfl) (Nat.zero_le _) (Nat.zero_le _) dJ0_checkIndex_df160_5 (fun H locs hS => ?_)
    refine lv_pop hx hb dJ0_checkIndex_df160_8 rfl ?_
    exact hret H locs 9 ls hS dJ0_checkIndex_df160_9
set_option maxRecDepth 100000 in
set_option maxHeartbeats 4000000 in
theorem c_J1_charAt (l : Launch) (b v : Nat) (i : Int32) (hi : vp_in i 6) : KS l yJ1_charAt_3b067 wsJ1_charAt_3b067 rmJ0_2 b v [.ref v, .int i] (chs i.toNatClampNeg) := by
  obtain ⟨j, hj, rfl⟩ := vp_in_of hi (by decide)
  have ej : (nI j).toNatClampNeg = j := nI_clamp (by omega)
  rw [ej]
  refine KS_of (own := RJ1) (cc := cJ1_charAt_3b067) (maxL := 2) (by decide) rfl rfl (Nat.le_of_ble_eq_true rfl) (chs_c j hj).2 ?_
  intro p e s m args below meth c A Q hx hb hml hown hts hA hZ hret H locs ls hS hl
  have hl : lv_has ls 2 [(0, .ref v), (1, .int (nI j))] := hl
  have hF : CallFix p m c cJ1_charAt_3b067 2 s args wsJ1_charAt_3b067 RJ1 := ⟨hx, hb, hml, hown, hts⟩
  refine lv_iload_n hx hb dJ1_charAt_3b067_0 rfl (lv_at hl 1 rfl) ?_
  refine lv_aload_n hx hb dJ1_charAt_3b067_1 rfl (lv_at hl 0 rfl) ?_
  refine va_tlen hx hb hZ.2.2.2.1 hS (v := nI 6) rfl dJ1_charAt_3b067_2 ?_
  refine s_vS (As := [.int (nI j), .int (nI 6)]) (rest := []) hF hA hZ hS (c_J0_check l b v (nI j) (nI 6) (nI_pos (by omega)) (nI_lt hj (by decide))) rfl gJ1_charAt_3b067_J0_checkIndex_df160 hdJ0_check ⟨rfl, rfl⟩ (Nat.le_of_ble_eq_true rfl) (Nat.le_of_ble_eq_true rfl) hl.1 rfl (Nat.le_of_ble_eq_true rfl) (Nat.zero_le _) (Nat.zero_le _) dJ1_charAt_3b067_3 (fun H locs hS => ?_)
  refine lv_aload_n hx hb dJ1_charAt_3b067_6 rfl (lv_at hl 0 rfl) ?_
  refine lv_iload_n hx hb dJ1_charAt_3b067_7 rfl (lv_at hl 1 rfl) ?_
  refine va_tb hx hb hZ.2.2.2.1 hS hi (v := .int (chs j)) (by rw [ej]) dJ1_charAt_3b067_8 ?_
  refine lv_sipush (v := 255) hx hb dJ1_charAt_3b067_9 sc_255 ?_
  refine lv_iand hx hb dJ1_charAt_3b067_12 ?_
  refine lv_i2c hx hb dJ1_charAt_3b067_13 (chs_c j hj).1 ?_
  exact hret H locs 14 ls hS dJ1_charAt_3b067_14
set_option maxRecDepth 100000 in
set_option maxHeartbeats 4000000 in
theorem c_J0_charAt (l : Launch) (b v : Nat) (i : Int32) (hi : vp_in i 6) : KS l yJ0_charAt_5068e wsJ0_charAt_5068e rmJ0_3 b v [.ref b, .int i] (chs i.toNatClampNeg) := by
  have hn : narrow .char (.int (chs i.toNatClampNeg)) = .int (chs i.toNatClampNeg) := by
    obtain ⟨j, hj, rfl⟩ := vp_in_of hi (by decide)
    rw [nI_clamp (show j < 2 ^ 31 by omega)]
    exact (chs_c j hj).2
  refine KS_of (own := RJ0) (cc := cJ0_charAt_5068e) (maxL := 2) (by decide) rfl rfl (Nat.le_of_ble_eq_true rfl) hn ?_
  intro p e s m args below meth c A Q hx hb hml hown hts hA hZ hret H locs ls hS hl
  have hl : lv_has ls 2 [(0, .ref b), (1, .int i)] := hl
  have hF : CallFix p m c cJ0_charAt_5068e 2 s args wsJ0_charAt_5068e RJ0 := ⟨hx, hb, hml, hown, hts⟩
  have k1 := hts (.fieldLink RJ0 9 "java/lang/String" "value" "[B") (by decide +kernel)
  refine lv_aload_n hx hb dJ0_charAt_5068e_0 rfl (lv_at hl 0 rfl) ?_
  refine s_iV (As := []) (rest := []) hF hA hZ hS (c_J0_isLatin1 l b v) rfl gJ0_charAt_5068e_J0_isLatin1_aae02 hdJ0_isLatin1 rfl ⟨rfl, rfl⟩ (Nat.le_of_ble_eq_true rfl) (Nat.le_of_ble_eq_true rfl) hl.1 rfl (Nat.le_of_ble_eq_true rfl) (Nat.zero_le _) (Nat.zero_le _) dJ0_charAt_5068e_1 (fun H locs _ hS => ?_)
  refine lv_if_eq (tgt := 16) hx hb dJ0_charAt_5068e_4 (by decide) (fun c_3 => absurd c_3 (by decide)) (fun c_3 => ?_)
  refine lv_aload_n hx hb dJ0_charAt_5068e_7 rfl (lv_at hl 0 rfl) ?_
  refine vk_getf (v := .ref v) hx hb hZ.2.2.1 hS hown k1 (fun _ h9 => h9) dJ0_charAt_5068e_8 ?_
  refine lv_iload_n hx hb dJ0_charAt_5068e_11 rfl (lv_at hl 1 rfl) ?_
  refine s_iS (As := [.ref v, .int i]) (rest := []) hF hA hZ hS (c_J1_charAt l b v i hi) rfl gJ0_charAt_5068e_J1_charAt_3b067 hdJ1_charAt ⟨rfl, rfl⟩ (Nat.le_of_ble_eq_true rfl) (Nat.le_of_ble_eq_true rfl) hl.1 rfl (Nat.le_of_ble_eq_true rfl) (Nat.zero_le _) (Nat.zero_le _) dJ0_charAt_5068e_12 (fun H locs hS => ?_)
  exact hret H locs 15 ls hS dJ0_charAt_5068e_15
