/-! the start -/
section QNIN
variable {p : Program} {l : Launch} {e : Env} {R : Room} {s : State} {m : MethodId} {args : Array Value} {below : List Frame} {meth : Method} {c : Code} {H : Heap} {locs : List Loc} {cells slots : Nat} {Q : State → Prop}
  {cc : ByteArray} {nL : Nat} {Ts : List Cond} {own : String} {D : va_G} {T : List (ClassId × FieldType)} {A : Nat → Prop} {ws wc wF : va_W} {P : va_W → Prop} {N : State → Prop} {mc ms : Nat}
  {y : MethodName} {wd wd' : List Cond} {rm : Room} {As rest st : List Value} {b : Nat} {bytes : ByteArray} {maxL index : Nat} {ls : Array Slot} {pc : Nat}
/-- a constructor's call, with words of the machine's own at its start -/
theorem q_nIN (hF : CallFix p m c cc nL s args Ts own) (hA : ∀ q : Nat, s.heap.size ≤ q → A q) (hK : va_K D vwCl T s) (hP : va_P D vwCl ws H) (hD : va_D A ws) (hS : va_S A s.heap H locs) (hc : KNEW l y wd rm N D T (.ref b :: As) wc P mc ms) (hNb : ∀ (U : State) (g : JFrame) (mk : MethodId) (a : Array Value), N U → N (U.calling g mk a)) (hNw : ∀ U : State, s.WarmedH U.vm → N U)
    (hw : wd = Cond.code y bytes maxL none :: wd') (hG : GoodIn Ts wd) (hini : (Cond.initialized y.cls).before args s = true) (hl : (Cond.methodLink own index y).before args s = true) (hin : (Cond.instanceMethod y).before args s = true) (hy1 : y.name = "<init>") (hd : y.cls ≠ "java/lang/invoke/MethodHandle" ∧ y.cls ≠ "java/lang/invoke/VarHandle" ∧ (parseMethodDescriptor y.desc).map (fun d => d.parameters.length) = some As.length) (hrm : rm.cells = mc ∧ rm.slots = ms) (hR1 : rm.frames + 1 ≤ R.frames) (hR2 : 8 + (maxL + 11) + rm.locals ≤ R.locals)
    (isC isR : List Nat) (hC : isC.map (fun i => ws[i]?) = wc.map some) (hR : isR.all (fun i => Nat.blt i ws.length) = true) (hn : va_nd isC = true) (hn2 : va_nd isR = true) (hdis : ∀ i ∈ isR, i ∉ isC)
    (hsz : ls.size = nL) (hst : st = As.reverse ++ .ref b :: rest) (hroom : (rest.map fun v => v.category).sum ≤ 8) (hcs : cells + mc ≤ R.cells) (hsl : slots + ms ≤ R.slots) (hdg : decode cc pc = .ok (.invokespecial index, 3))
    (kk : ∀ (H : Heap) (locs : List Loc) (W1 : va_W), P W1 → va_P D vwCl (isR.filterMap (fun i => ws[i]?) ++ W1) H → va_D A (isR.filterMap (fun i => ws[i]?) ++ W1) → va_S A s.heap H locs → W p l e R s m args below meth c H locs (cells + mc) (slots + ms) Q (F0 m (pc + 3) ls rest)) : W p l e R s m args below meth c H locs cells slots Q (F0 m pc ls st) := by
  have hPc := q_sub isC hP hC
  have hDc := hD.sub isC hn hC
  have hFc := va_free hD hS hA isC hC
  refine va_callv (va_runI (As := As) (rest := rest) hF (hc H.size) (cwI As.length hF.2.2.2.2 hG hw hrm.1 hrm.2 hini hl hin hy1 hd ⟨hR1, hR2⟩) ⟨fun a U g mk q => by obtain ⟨q0, q1, qP, qK, qD, qN⟩ := q; exact ⟨q0, q1, qP, va_K.moved (u := U) (U := U.calling g mk a) (Vm.Alike.refl U.vm) qK, qD, hNb U g mk a qN⟩, fun U hU hW => ⟨rfl, by rw [hU], by rw [hU]; exact hPc, va_K.moved hW.alike hK, hDc.weaken (fun _ _ _ _ => trivial), hNw U hW⟩⟩ rfl rfl hsz hst (lv_room (pc := pc) (ls := ls) (rest := st) hroom) hdg ⟨hcs, hsl⟩) hS (fun q _ h => hFc q h) hFc (fun u t H1 locs1 ht hvm hw2 hB hz1 hk1 hS1 => ?_)
  obtain ⟨W1, hPW, hP1, hK1, hD1⟩ := hB
  rw [ht] at hP1
  obtain ⟨hP2, hD2⟩ := q_join hP hD hS hA isC isR hC hR hn2 hdis rfl hk1 hP1 hD1
  exact kk H1 locs1 W1 hPW hP2 hD2 hS1
end QNIN
theorem start_cls {s : State} {args : Array Value} (hts : ∀ w ∈ lw_tbl, w.before args s = true) : ∃ (dC : Nat → ClassId) (dI : Nat → Nat → Nat), ∀ (k : Nat) (q : vw_C), vwCl[k]? = some q → u_Kn s q.1 q.2.1 q.2.2 (dC k) (dI k) := by
  have hw : ∀ w ∈ wsL_law, w.before args s = true := fun w h => hts w (wsL_law_in w h)
  have u0 : ∀ w ∈ u_ws RX0 TX0 6, w ∈ wsX00 := by decide +kernel
  have h0 := u_known (C := RX0) (T := TX0) (N := 6) (n := 6) hts (fun w h => inX0 w (u0 w h)) (hw (.instantiable RX0 6) (by decide +kernel))
  have u1 : ∀ w ∈ u_ws RX1 TX1 5, w ∈ wsX10 := by decide +kernel
  have h1 := u_known (C := RX1) (T := TX1) (N := 5) (n := 5) hts (fun w h => inX1 w (u1 w h)) (hw (.instantiable RX1 5) (by decide +kernel))
  have u2 : ∀ w ∈ u_ws RX2 TX2 9, w ∈ wsX20 := by decide +kernel
  have h2 := u_known (C := RX2) (T := TX2) (N := 9) (n := 9) hts (fun w h => inX2 w (u2 w h)) (hw (.instantiable RX2 9) (by decide +kernel))
  have u3 : ∀ w ∈ u_ws RX3 TX3 5, w ∈ wsX30 := by decide +kernel
  have h3 := u_known (C := RX3) (T := TX3) (N := 5) (n := 5) hts (fun w h => inX3 w (u3 w h)) (hw (.instantiable RX3 5) (by decide +kernel))
  have u5 : ∀ w ∈ u_ws RX5 TX5 2, w ∈ wsX50 := by decide +kernel
  have h5 := u_known (C := RX5) (T := TX5) (N := 2) (n := 2) hts (fun w h => inX5 w (u5 w h)) (hw (.instantiable RX5 2) (by decide +kernel))
  have u6 : ∀ w ∈ u_ws RX6 TX6 2, w ∈ wsX60 := by decide +kernel
  have h6 := u_known (C := RX6) (T := TX6) (N := 2) (n := 2) hts (fun w h => inX6 w (u6 w h)) (hw (.instantiable RX6 2) (by decide +kernel))
  have u7 : ∀ w ∈ u_ws RX7 TX7 4, w ∈ wsX70 := by decide +kernel
  have h7 := u_known (C := RX7) (T := TX7) (N := 4) (n := 4) hts (fun w h => inX7 w (u7 w h)) (hw (.instantiable RX7 4) (by decide +kernel))
  have u8 : ∀ w ∈ u_ws RX8 TX8 4, w ∈ wsX80 := by decide +kernel
  have h8 := u_known (C := RX8) (T := TX8) (N := 4) (n := 4) hts (fun w h => inX8 w (u8 w h)) (hw (.instantiable RX8 4) (by decide +kernel))
  have u9 : ∀ w ∈ u_ws RX9 TX9 1, w ∈ wsX90 := by decide +kernel
  have h9 := u_known (C := RX9) (T := TX9) (N := 1) (n := 1) hts (fun w h => inX9 w (u9 w h)) (hw (.instantiable RX9 1) (by decide +kernel))
  have u10 : ∀ w ∈ u_ws RX10 TX10 12, w ∈ wsX100 := by decide +kernel
  have h10 := u_known (C := RX10) (T := TX10) (N := 12) (n := 12) hts (fun w h => inX10 w (u10 w h)) (hw (.instantiable RX10 12) (by decide +kernel))
  have u11 : ∀ w ∈ u_ws RX11 TX11 25, w ∈ wsX110 := by decide +kernel
  have h11 := u_known (C := RX11) (T := TX11) (N := 25) (n := 25) hts (fun w h => inX11 w (u11 w h)) (hw (.instantiable RX11 25) (by decide +kernel))
  have h : ∀ k : Nat, ∃ (c : ClassId) (i : Nat → Nat), ∀ q : vw_C, vwCl[k]? = some q → u_Kn s q.1 q.2.1 q.2.2 c i := by
    intro k
    match k with
    | 0 => obtain ⟨c, i, h⟩ := h0; exact ⟨c, i, fun q hq => by cases hq; exact h⟩
    | 1 => obtain ⟨c, i, h⟩ := h1; exact ⟨c, i, fun q hq => by cases hq; exact h⟩
    | 2 => obtain ⟨c, i, h⟩ := h2; exact ⟨c, i, fun q hq => by cases hq; exact h⟩
    | 3 => obtain ⟨c, i, h⟩ := h3; exact ⟨c, i, fun q hq => by cases hq; exact h⟩
    | 4 => obtain ⟨c, i, h⟩ := h5; exact ⟨c, i, fun q hq => by cases hq; exact h⟩
    | 5 => obtain ⟨c, i, h⟩ := h6; exact ⟨c, i, fun q hq => by cases hq; exact h⟩
    | 6 => obtain ⟨c, i, h⟩ := h7; exact ⟨c, i, fun q hq => by cases hq; exact h⟩
    | 7 => obtain ⟨c, i, h⟩ := h8; exact ⟨c, i, fun q hq => by cases hq; exact h⟩
    | 8 => obtain ⟨c, i, h⟩ := h9; exact ⟨c, i, fun q hq => by cases hq; exact h⟩
    | 9 => obtain ⟨c, i, h⟩ := h10; exact ⟨c, i, fun q hq => by cases hq; exact h⟩
    | 10 => obtain ⟨c, i, h⟩ := h11; exact ⟨c, i, fun q hq => by cases hq; exact h⟩
    | k + 11 => obtain ⟨c, i, -⟩ := h0; exact ⟨c, i, fun q hq => by simp [vwCl] at hq⟩
  exact ⟨fun k => (h k).choose, fun k => (h k).choose_spec.choose, fun k q hq => (h k).choose_spec.choose_spec q hq⟩
theorem start_arr {s : State} {args : Array Value} {ty : FieldType} (h : (Cond.arrayClass ty).before args s = true) : ∃ cA : ClassId, ArrOfT s cA ty ∧ s.vm.findClass ("[" ++ ty.toString) = some cA := by
  obtain ⟨cA, kA, comp, h1, h2, h3⟩ := Cond.arrayClass_spec h
  exact ⟨cA, fun n z => ⟨fun k h => (by cases h), kA, h2, comp, h3⟩, h1⟩
theorem start_K {s : State} {args : Array Value} (hts : ∀ w ∈ lw_tbl, w.before args s = true) : ∃ (D : va_G) (cI cB cZ : ClassId), va_K D vwCl [(cI, .int), (cB, .byte), (cZ, .boolean)] s := by
  have hw : ∀ w ∈ wsL_law, w.before args s = true := fun w h => hts w (wsL_law_in w h)
  obtain ⟨dC, dI, h⟩ := start_cls hts
  obtain ⟨cI, i1, i2⟩ := start_arr (hw (.arrayClass .int) (by decide +kernel))
  obtain ⟨cB, b1, b2⟩ := start_arr (hw (.arrayClass .byte) (by decide +kernel))
  obtain ⟨cZ, z1, z2⟩ := start_arr (hw (.arrayClass .boolean) (by decide +kernel))
  refine ⟨(dC, dI), cI, cB, cZ, h, fun k q hq => ?_⟩
  match k, hq with
  | 0, hq => cases hq; exact ⟨i1, i2⟩
  | 1, hq => cases hq; exact ⟨b1, b2⟩
  | 2, hq => cases hq; exact ⟨z1, z2⟩
  | k + 3, hq => simp at hq
theorem eq_ev {a : Array Value} {s : State} {t : Term} {n : Int32} (h : (Cond.eq t (.int n)).before a s = true) : t.eval a s none [] s = some (.int n) := by
  cases he : t.eval a s none [] s with
  | none => simp [Cond.before, Cond.holds, Cond.value, he] at h
  | some w => cases w <;> simp_all [Cond.before, Cond.holds, Cond.value, Term.eval]
theorem start_Z {s : State} {b : Nat} (hts : ∀ w ∈ lw_tbl, w.before #[Value.ref b] s = true) (hg : (Jvm.Cond.and given_1 narrow_1).before #[Value.ref b] s = true) : QZ (fun q : Nat => s.heap.size ≤ q) s s.heap := by
  have hf := flat_of_before _ hg
  have hw : ∀ w ∈ wsL_law, w.before #[Value.ref b] s = true := fun w h => hts w (wsL_law_in w h)
  have hA : ∀ a : Nat, a < s.heap.size → ¬ (fun q : Nat => s.heap.size ≤ q) a := fun a h => Nat.not_le.mpr h
  obtain ⟨adK, adV, h1, h2⟩ := vk_Sof (args := #[Value.ref b]) (s := s) (N := 1) (tm := fun _ => .string "NoWordNo$Tokens" 49) (len := [6]) (byt := [[99, 104, 111, 105, 99, 101]]) (fun i hi => by rcases (show i = 0 by omega) with rfl; decide) (fun i hi => hf _ (by decide +kernel)) (fun i hi => hf _ (by decide +kernel)) (fun i hi => hf _ (by decide +kernel)) (fun i hi => by rcases (show i = 0 by omega) with rfl; exact hf _ (by decide +kernel)) (fun i hi j hj => by
    rcases (show i = 0 by omega) with rfl
    have hj : j < 6 := hj
    rcases (show j = 0 ∨ j = 1 ∨ j = 2 ∨ j = 3 ∨ j = 4 ∨ j = 5 by omega) with rfl | rfl | rfl | rfl | rfl | rfl <;> exact hf _ (by decide +kernel)) (fun i j hi hj hne => absurd (show i = j by omega) hne) hA
  refine ⟨⟨adK, adV, h1, vk_R.of (hts _ (List.mem_append_right _ (by decide +kernel))) (h2 0 (by decide))⟩, va_Zof (hts _ (List.mem_append_right _ (by decide +kernel))) (hw _ (by decide +kernel)) (eq_ev (hf _ (by decide +kernel))) hA, va_Zqof (hts _ (List.mem_append_right _ (by decide +kernel))) (hw _ (by decide +kernel)) (hf _ (by decide +kernel)) hA⟩
