/-! constructors: contracts that make cells -/
theorem init_R (tB sv sf L0 S0 W0 L1 S1 W1 L2 S2 W2 ll mx mv ms mL mS mws mw mk : AR) (h1 : ms 0 = 0) (h2 : mws 0 = 0) (h3 : mk 0 = 0) (h4 : mk 1 = 0) : RR 0 0 0 tB 0 1 sv sf 0 0 0 L0 S0 W0 0 0 0 L1 S1 W1 0 0 0 L2 S2 W2 ll 0 0 0 0 0 0 1 mx mv ms mL mS mws mw mk := by
  have hT : TG 0 (fun _ => 1) 1 := ⟨by decide, fun i hi => absurd hi (Nat.not_lt_zero i), fun _ _ => rfl, rfl, by decide⟩
  exact ⟨0, fun _ => 0, 0, fun _ => 1, 1, 0, fun _ => 0, fun _ => 0, 0, fun _ => 0, rfl, rfl, TX_0 _ _ _, rfl, rfl, rfl, rfl, ⟨hT, fun i hi => absurd hi (Nat.not_lt_zero i), fun c v hc => absurd hc (Nat.not_lt_zero c)⟩, ⟨hT, fun i hi => absurd hi (Nat.not_lt_zero i)⟩, KE_0 h1 h2 _ _ _, Or.inl ⟨rfl, h3⟩, Or.inl ⟨rfl, h4⟩, rfl, Or.inl rfl, Or.inl rfl⟩
def QPn (N : State → Prop) (D : va_G) (T : List (ClassId × FieldType)) (ws : va_W) (sz : Nat) (av : List Value) : Array Value → State → Prop := va_Pc av (fun U => U.heap.size = sz ∧ va_P D vwCl ws U.heap ∧ va_K D vwCl T U ∧ va_D (fun _ => True) ws ∧ N U)
/-- a constructor's contract: its worlds, what it makes -/
def KNEW (l : Launch) (y : MethodName) (wd : List Cond) (rm : Room) (N : State → Prop) (D : va_G) (T : List (ClassId × FieldType)) (av : List Value) (W0 : va_W) (P : va_W → Prop) (mc ms : Nat) : Prop := ∀ sz : Nat, Met l y wd rm (QPn N D T W0 sz av) (va_Qv (fun (_ : Unit) => True) (fun _ t => ∃ W1, P W1 ∧ QB D T (va_A W0 sz) W1 t) (va_A W0 sz)) mc ms (va_A W0 sz)
theorem KNEW_of {l : Launch} {y : MethodName} {own : String} {wd wd' : List Cond} {rm : Room} {N : State → Prop} {D : va_G} {T : List (ClassId × FieldType)} {av : List Value} {W0 : va_W} {P : va_W → Prop} {mc ms : Nat} {cc : ByteArray} {maxL : Nat} (hy : plainName y.cls = true) (ho : y.cls = own) (hin : y.name = "<init>") (hw : wd = Cond.code y cc maxL none :: wd') (hn : (lg_sl av).length ≤ maxL)
    (body : ∀ (p : Program) (e : Env) (s : State) (m : MethodId) (args : Array Value) (below : List Frame) (meth : Method) (c : Code) (A : Nat → Prop) (Q : State → Prop), p.tables.exec = Jvm.exec → c.code = cc → c.maxLocals = maxL → s.vm.findClass own = some m.cls → (∀ w ∈ wd, w.before args s = true) → (∀ q : Nat, s.heap.size ≤ q → A q) → va_K D vwCl T s → N s → meth.name = "<init>" →
      (∀ (H : Heap) (locs : List Loc) (cells slots : Nat) (pc : Nat) (ls : Array Slot) (W1 : va_W), cells ≤ mc → slots ≤ ms → P W1 → va_P D vwCl W1 H → va_D A W1 → va_S A s.heap H locs → decode cc pc = .ok (.return_, 1) → W p l e rm s m args below meth c H locs cells slots Q (F0 m pc ls [])) →
      ∀ (H : Heap) (locs : List Loc) (ls : Array Slot), va_P D vwCl W0 H → va_D A W0 → va_S A s.heap H locs → lv_has ls maxL (lv_args 0 av) → W p l e rm s m args below meth c H locs 0 0 Q (F0 m 0 ls [])) :
    KNEW l y wd rm N D T av W0 P mc ms := by
  intro sz
  refine Met.ofW (cc := cc) (maxL := maxL) (ret := none) hy hw ?_
  intro p e s m args below meth c s₁ B hml hv
  obtain ⟨rfl, hsz, hP, hK, hD0, hN⟩ := hv
  have hown : s.vm.findClass own = some m.cls := ho ▸ findClass_of_methodNamed B.named
  have hnm : meth.name = "<init>" := ((name_of_methodNamed B.named B.method).1).trans hin
  have hl := lv_entry av (n := maxL) hn
  rw [lg_entry_eq]
  generalize (lg_sl av ++ List.replicate (maxL - (lg_sl av).length) Slot.unset).toArray = ls at hl ⊢
  subst hsz
  refine body p e s m _ below meth c _ _ B.exec B.bytes hml hown (atoms_spec (ws := wd) B.pre) (fun q h => Or.inr h) hK hN hnm ?_ s.heap [] ls hP hD0.self va_S.rf hl
  intro H locs cells slots pc ls W1 hc hs hPW hP hD hS hd
  refine W.widen (k := mc) (n := ms) hc hs ?_
  exact W.vret B.exec B.bytes B.returns (fun t ht hW => ⟨⟨(), rfl, trivial, W1, hPW, by rw [ht]; exact hP, va_K.moved hW.alike hK, hD⟩, hS.F ht⟩) hS.2.2 hd
section QNEW
variable {p : Program} {l : Launch} {e : Env} {R : Room} {s : State} {m : MethodId} {args : Array Value} {below : List Frame} {meth : Method} {c : Code} {H : Heap} {locs : List Loc} {cells slots : Nat} {Q : State → Prop}
  {cc : ByteArray} {nL : Nat} {Ts : List Cond} {own : String} {D : va_G} {T : List (ClassId × FieldType)} {A : Nat → Prop} {ws wc wF : va_W} {P : va_W → Prop} {N : State → Prop} {mc ms : Nat}
  {y : MethodName} {wd wd' : List Cond} {rm : Room} {As rest st : List Value} {b : Nat} {bytes : ByteArray} {maxL index : Nat} {ls : Array Slot} {pc : Nat}
/-- a new row whose class is known -/
theorem q_newa {cI cB cZ : ClassId} (hx : p.tables.exec = Jvm.exec) (hb : c.code = cc) {atype : ArrayType} {ty : FieldType} {cA : ClassId} (i : Nat) (hT : [(cI, FieldType.int), (cB, FieldType.byte), (cZ, FieldType.boolean)][i]? = some (cA, ty)) (hty : newarray.typeOf atype = ty) (harr : (Cond.arrayClass (newarray.typeOf atype)).before args s = true) (hK : va_K D vwCl [(cI, .int), (cB, .byte), (cZ, .boolean)] s) (hP : va_P D vwCl ws H) (hD : va_D A ws) (hS : va_S A s.heap H locs) (hA : ∀ q : Nat, s.heap.size ≤ q → A q)
    {n : Int32} {N' : Nat} {a0 : vp_A} (ha : ∀ cA : ClassId, vp_cell cA a0 = arrV cA N' (fun _ => defaultValue ty)) (hn : ¬ n < 0) (hN : n.toNatClampNeg = N') (hbytes : N' * componentBytes ty ≤ 536870912) (hcells : cells + 1 ≤ R.cells) (hslots : slots + N' ≤ R.slots) (hdg : decode cc pc = .ok (.newarray atype, 2))
    (kk : ∀ (q : Nat) (H1 : Heap), va_P D vwCl (ws ++ [(q, .inl (cA, a0))]) H1 → va_D A (ws ++ [(q, .inl (cA, a0))]) → va_S A s.heap H1 locs → W p l e R s m args below meth c H1 locs (cells + 1) (slots + N') Q (F0 m (pc + 2) ls (.ref q :: rest))) : W p l e R s m args below meth c H locs cells slots Q (F0 m pc ls (.int n :: rest)) := by
  refine va_newa (atype := atype) hx hb harr hty hK hP hD hS hA ha hn hN hbytes hcells hslots hdg (fun q cX H1 hK1 hP1 hD1 hS1 => ?_)
  have h1 := (hK1.2 3 (cX, ty) rfl).2
  have h2 := (hK.2 i (cA, ty) hT).2
  have e : cX = cA := by
    rcases (show i = 0 ∨ i = 1 ∨ i = 2 ∨ 3 ≤ i by omega) with rfl | rfl | rfl | h
    · cases hT; exact Option.some.inj (h1.symm.trans h2)
    · cases hT; exact Option.some.inj (h1.symm.trans h2)
    · cases hT; exact Option.some.inj (h1.symm.trans h2)
    · rw [List.getElem?_eq_none (by simpa using h)] at hT; cases hT
  subst e
  exact kk q H1 hP1 hD1 hS1
/-- a constructor's call -/
theorem q_nI (hF : CallFix p m c cc nL s args Ts own) (hA : ∀ q : Nat, s.heap.size ≤ q → A q) (hK : va_K D vwCl T s) (hP : va_P D vwCl ws H) (hD : va_D A ws) (hS : va_S A s.heap H locs) (hc : KNEW l y wd rm (fun _ => True) D T (.ref b :: As) wc P mc ms)
    (hw : wd = Cond.code y bytes maxL none :: wd') (hG : GoodIn Ts wd) (hini : (Cond.initialized y.cls).before args s = true) (hl : (Cond.methodLink own index y).before args s = true) (hin : (Cond.instanceMethod y).before args s = true) (hy1 : y.name = "<init>") (hd : y.cls ≠ "java/lang/invoke/MethodHandle" ∧ y.cls ≠ "java/lang/invoke/VarHandle" ∧ (parseMethodDescriptor y.desc).map (fun d => d.parameters.length) = some As.length) (hrm : rm.cells = mc ∧ rm.slots = ms) (hR1 : rm.frames + 1 ≤ R.frames) (hR2 : 8 + (maxL + 11) + rm.locals ≤ R.locals)
    (isC isR : List Nat) (hC : isC.map (fun i => ws[i]?) = wc.map some) (hR : isR.all (fun i => Nat.blt i ws.length) = true) (hn : va_nd isC = true) (hn2 : va_nd isR = true) (hdis : ∀ i ∈ isR, i ∉ isC)
    (hsz : ls.size = nL) (hst : st = As.reverse ++ .ref b :: rest) (hroom : (rest.map fun v => v.category).sum ≤ 8) (hcs : cells + mc ≤ R.cells) (hsl : slots + ms ≤ R.slots) (hdg : decode cc pc = .ok (.invokespecial index, 3))
    (kk : ∀ (H : Heap) (locs : List Loc) (W1 : va_W), P W1 → va_P D vwCl (isR.filterMap (fun i => ws[i]?) ++ W1) H → va_D A (isR.filterMap (fun i => ws[i]?) ++ W1) → va_S A s.heap H locs → W p l e R s m args below meth c H locs (cells + mc) (slots + ms) Q (F0 m (pc + 3) ls rest)) : W p l e R s m args below meth c H locs cells slots Q (F0 m pc ls st) := by
  have hPc := q_sub isC hP hC
  have hDc := hD.sub isC hn hC
  have hFc := va_free hD hS hA isC hC
  refine va_callv (va_runI (As := As) (rest := rest) hF (hc H.size) (cwI As.length hF.2.2.2.2 hG hw hrm.1 hrm.2 hini hl hin hy1 hd ⟨hR1, hR2⟩) ⟨fun a U g mk q => by obtain ⟨q0, q1, qP, qK, qD⟩ := q; exact ⟨q0, q1, qP, va_K.moved (u := U) (U := U.calling g mk a) (Vm.Alike.refl U.vm) qK, qD⟩, fun U hU hW => ⟨rfl, by rw [hU], by rw [hU]; exact hPc, va_K.moved hW.alike hK, hDc.weaken (fun _ _ _ _ => trivial), trivial⟩⟩ rfl rfl hsz hst (lv_room (pc := pc) (ls := ls) (rest := st) hroom) hdg ⟨hcs, hsl⟩) hS (fun q _ h => hFc q h) hFc (fun u t H1 locs1 ht hvm hw2 hB hz1 hk1 hS1 => ?_)
  obtain ⟨W1, hPW, hP1, hK1, hD1⟩ := hB
  rw [ht] at hP1
  obtain ⟨hP2, hD2⟩ := q_join hP hD hS hA isC isR hC hR hn2 hdis rfl hk1 hP1 hD1
  exact kk H1 locs1 W1 hPW hP2 hD2 hS1
/-- a private constructor's call by a nest mate -/
theorem q_nN {host : String} (hF : CallFix p m c cc nL s args Ts own) (hA : ∀ q : Nat, s.heap.size ≤ q → A q) (hK : va_K D vwCl T s) (hP : va_P D vwCl ws H) (hD : va_D A ws) (hS : va_S A s.heap H locs) (hc : KNEW l y wd rm (fun _ => True) D T (.ref b :: As) wc P mc ms)
    (hw : wd = Cond.code y bytes maxL none :: wd') (hG : GoodIn Ts wd) (hini : (Cond.initialized y.cls).before args s = true) (hl : va_Nw (.methodLinkNest own index y host) s) (hin : (Cond.instanceMethod y).before args s = true) (hy1 : y.name = "<init>") (hd : y.cls ≠ "java/lang/invoke/MethodHandle" ∧ y.cls ≠ "java/lang/invoke/VarHandle" ∧ (parseMethodDescriptor y.desc).map (fun d => d.parameters.length) = some As.length) (hrm : rm.cells = mc ∧ rm.slots = ms) (hR1 : rm.frames + 1 ≤ R.frames) (hR2 : 8 + (maxL + 11) + rm.locals ≤ R.locals)
    (isC isR : List Nat) (hC : isC.map (fun i => ws[i]?) = wc.map some) (hR : isR.all (fun i => Nat.blt i ws.length) = true) (hn : va_nd isC = true) (hn2 : va_nd isR = true) (hdis : ∀ i ∈ isR, i ∉ isC)
    (hsz : ls.size = nL) (hst : st = As.reverse ++ .ref b :: rest) (hroom : (rest.map fun v => v.category).sum ≤ 8) (hcs : cells + mc ≤ R.cells) (hsl : slots + ms ≤ R.slots) (hdg : decode cc pc = .ok (.invokespecial index, 3))
    (kk : ∀ (H : Heap) (locs : List Loc) (W1 : va_W), P W1 → va_P D vwCl (isR.filterMap (fun i => ws[i]?) ++ W1) H → va_D A (isR.filterMap (fun i => ws[i]?) ++ W1) → va_S A s.heap H locs → W p l e R s m args below meth c H locs (cells + mc) (slots + ms) Q (F0 m (pc + 3) ls rest)) : W p l e R s m args below meth c H locs cells slots Q (F0 m pc ls st) := by
  have hPc := q_sub isC hP hC
  have hDc := hD.sub isC hn hC
  have hFc := va_free hD hS hA isC hC
  refine va_callv (va_runIN (As := As) (rest := rest) hF (hc H.size) ⟨va_cnB As.length hF.2.2.2.2 hG hw hrm.1 hrm.2 hl hini hd ⟨hR1, hR2⟩, hy1, hin⟩ ⟨fun a U g mk q => by obtain ⟨q0, q1, qP, qK, qD⟩ := q; exact ⟨q0, q1, qP, va_K.moved (u := U) (U := U.calling g mk a) (Vm.Alike.refl U.vm) qK, qD⟩, fun U hU hW => ⟨rfl, by rw [hU], by rw [hU]; exact hPc, va_K.moved hW.alike hK, hDc.weaken (fun _ _ _ _ => trivial), trivial⟩⟩ rfl rfl hsz hst (lv_room (pc := pc) (ls := ls) (rest := st) hroom) hdg ⟨hcs, hsl⟩) hS (fun q _ h => hFc q h) hFc (fun u t H1 locs1 ht hvm hw2 hB hz1 hk1 hS1 => ?_)
  obtain ⟨W1, hPW, hP1, hK1, hD1⟩ := hB
  rw [ht] at hP1
  obtain ⟨hP2, hD2⟩ := q_join hP hD hS hA isC isR hC hR hn2 hdis rfl hk1 hP1 hD1
  exact kk H1 locs1 W1 hPW hP2 hD2 hS1
end QNEW
