/-! the start -/
section QNIN
variable {p : Program} {l : Launch} {e : Env} {R : Room} {s : State} {m : MethodId} {args : Array Value} {below : List Frame} {meth : Method} {c : Code} {H : Heap} {locs : List Loc} {cells slots : Nat} {Q : State → Prop}
  {cc : ByteArray} {nL : Nat} {Ts : List Cond} {own : String} {D : va_G} {T : List (ClassId × FieldType)} {A : Nat → Prop} {ws wc wF : va_W} {P : va_W → Prop} {N : State → Prop} {mc ms : Nat}
  {y : MethodName} {wd wd' : List Cond} {rm : Room} {As rest st : List Value} {b : Nat} {bytes : ByteArray} {maxL index : Nat} {ls : Array Slot} {pc : Nat}
/-- a constructor's call, with words of the machine's own at its start -/
theorem q_nIN (hF : CallFix p m c cc nL s args Ts own) (hA : ∀ q : Nat, s.heap.size ≤ q → A q) (hK : va_K D vwCl T s) (hP : va_P D vwCl ws H) (hD : va_D A ws) (hS : va_S A s.heap H locs) (hc : KNEW l y wd rm N D T (.ref b :: As) wc P mc ms) (hNb : ∀ (U : State) (g : JFrame) (mk : MethodId) (a : Array Value), N U → N (U.calling g mk a)) (hNw : ∀ U : State, s.WarmedH U.vm → N U)
    (hw : wd = Cond.code y bytes maxL none :: wd') (hG : GoodIn Ts wd) (hini : (Cond.initialized y.cls).before args s = true) (hl : (Cond.methodLink own index y).before args s = true) (hin : (Cond.instanceMethod y).before args s = true) (hy1 : y.name = "<init>") (hd : y.cls ≠ "java/lang/invoke/MethodHandle" ∧ y.cls ≠ "java/lang/invoke/VarHandle" ∧ (parseMethodDescriptor y.desc).map (fun d => d.parameters.length) = some As.length) (hrm : rm.cells = mc ∧ rm.slots = ms) (hR1 : rm.frames + 1 ≤ R.frames) (hR2 : 8 + (maxL + 11) + rm.locals ≤ R.locals)
    (isC isR : List Nat) (hC : isC.map (fun i => ws[i]?) = wc.map some) (hR : isR.all (fun i => Nat.blt i ws.length) = true) (hn : va_nd isC = true) (hn2 : va_nd isR = true) (hdis : ∀ i ∈ isR, i ∉ isC)
    (hsz : ls.size = nL) (hst : st = As.reverse ++ .ref b :: rest) (hroom : (rest.map fun v => v.category).sum ≤ 8) (hcs : cells + mc ≤ R.cells) (hsl : slots + ms ≤ R.slots) (hdg : decode cc pc = .ok (.invokespecial index, 3))
    (kk : ∀ (H : Heap) (locs : List Loc) (W1 : va_W), P W1 → va_P D vwCl (isR.filterMap (fun i => ws[i]?) ++ W1) H → va_D A (isR.filterMap (fun i => ws[i]?) ++ W1) → va_S A s.heap H locs → W p l e R s m args below meth c H locs (cells + mc) (slots + ms) Q (F0 m (pc + 3) ls rest)) : W p l e R s m args below meth c H locs cells slots Q (F0 m pc ls st) := by
  have hPc := q_sub isC hP hC
  have hDc := hD.sub isC hn hC
  have hFc := va_free hD hS hA isC hC
  refine va_callv (va_runI (As := As) (rest := rest) hF (hc H.size) (cwI As.length hF.2.2.2.2 hG hw hrm.1 hrm.2 hini hl hin hy1 hd ⟨hR1, hR2⟩) ⟨fun a U g mk q => by obtain ⟨q0, q1, qP, qK, qD, qN⟩ := q; exact ⟨q0, q1, qP, va_K.moved (u := U) (U := U.calling g mk a) (Vm.Alike.refl U.vm) qK, qD, hNb U g mk a qN⟩, fun U hU hW => ⟨rfl, by rw [hU], by rw [hU]; exact hPc, va_K.moved hW.alike hK, hDc.weaken (fun _ _ _ _ => trivial), hNw U hW⟩⟩ rfl rfl hsz hst (lv_room (pc := pc) (ls := ls) (rest := st) hroom) hdg ⟨hcs, hsl⟩) hS (fun q _ h => hFc q h) hFc (fun u t H1 locs1 ht hvm hw2 hB hz1 hk1 hS1 => ?_)
  obtain ⟨W1, hPW, hP1, hK1, hD1⟩ := hB
  rw [ht] at hP1
  obtain ⟨hP2, hD2⟩ := q_join hP hD hS hA isC isR hC hR hn2 hdis rfl hk1 hP1 hD1
  exact kk H1 locs1 W1 hPW hP2 hD2 hS1
end QNIN
