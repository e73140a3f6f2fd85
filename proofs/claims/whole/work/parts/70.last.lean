/-! THE CLAIM OUT OF ONE WALK OF THE LAW'S BODY. Your part is whole_start (and what it stands on); all else here is the same for every law, but numbers. -/
def R_law : String := "NoWordNoLaw"
def lw_P (b : Addr) (xs : List Int32) (args : Array Value) (s : State) : Prop := args = #[.ref b] ∧ s.IntsAt b xs ∧ xs.length ≤ 2048 ∧ (Jvm.Cond.and given_1 narrow_1).before args s = true
def lw_Q (_ : Array Value) (s : State) (o : Outcome) (t : State) : Prop := o = .returned (some (.int 1)) ∧ Framed s o t [] 48 3836
def lw_Z (below : List Frame) (a : Array Value) (s : State) : State → Prop := fun t => ∃ o, t.status = .running ∧ Ended t below o ∧ lw_Q a s o t
/-- the law's own end, with 1 on the stack, nothing written that was there before, its room as the claim has it -/
theorem lw_ret {p : Program} {l : Launch} {e : Env} {s : State} {m : MethodId} {below : List Frame} {meth : Method} {c : Code} {b : Nat} (hx : p.tables.exec = Jvm.exec) (hb : c.code = code) (hr : meth.sig.returnType = ret) (hlocks : meth.locks = false) {pc : Nat} {H : Heap} {ls : Array Slot} (hdg : decode code pc = .ok (.ireturn, 1)) : W p l e room_1 s m #[Value.ref b] below meth c H [] 48 3836 (lw_Z below #[Value.ref b] s) (F0 m pc ls [.int 1]) := by
  intro T hT X
  obtain ⟨fs, hret, hrun, hended, hW, hframe⟩ := X.leave (v := some (.int 1)) (hlocks := hlocks) (fun h => by rw [hr] at h; cases h)
  have hmeth' : T.vm.method? m = some meth := X.method'
  refine ⟨T.setFrames fs, ?_, .returned (some (.int 1)), hrun, hended, rfl, ⟨_, rfl⟩, hW, hframe⟩
  jvm_step X.here [X.here.top, hx, hb, hdg, hmeth', hr, ret, narrow_b1]
  (try refine ⟨rfl, ?_⟩); (try refine ⟨rfl, ?_⟩)
  first | (intro acts; rw [hret _ acts rfl rfl rfl]) | rw [hret _ _ rfl rfl rfl]
  exact Steps.refl _
/-- what holds at the law's entry: the machine, the code, the tables' words (any of lw_tbl by 'hts w (by decide +kernel)'), the script of L ints xs at the cell b, what the Statement gives of the start (any of its parts by flat_of_before) -/
def lw_At (p : Program) (s : State) (m : MethodId) (meth : Method) (c : Code) (b L : Nat) (xs : Nat → Int32) : Prop :=
  p.tables.exec = Jvm.exec ∧ c.code = code ∧ meth.sig.returnType = ret ∧ c.maxLocals = 4 ∧ s.vm.findClass R_law = some m.cls ∧ (∀ w ∈ lw_tbl, w.before #[Value.ref b] s = true) ∧ va_X b L xs s s.heap ∧ b < s.heap.size ∧ meth.locks = false ∧ (Jvm.Cond.and given_1 narrow_1).before #[Value.ref b] s = true
set_option maxHeartbeats 4000000 in
set_option maxRecDepth 100000 in
theorem whole_start {p : Program} {e : Env} {s : State} {m : MethodId} {below : List Frame} {meth : Method} {c : Code} (l : Launch) (hflags : l.flags = flags0) {b L : Nat} {xs : Nat → Int32} (hL : L ≤ 2048) (C0 : lw_At p s m meth c b L xs) : W p l e room_1 s m #[Value.ref b] below meth c s.heap [] 0 0 (lw_Z below #[Value.ref b] s) (entryFrame m ([Value.ref b] : List Value).toArray 4) := by
  obtain ⟨hx, hb, hr, hml, hown, hts, hX, hbl, hlocks, hgv⟩ := id C0
  have hA : ∀ q : Nat, s.heap.size ≤ q → (fun q : Nat => s.heap.size ≤ q) q := fun _ h => h
  have hbA : ¬ (fun q : Nat => s.heap.size ≤ q) b := Nat.not_le.mpr hbl
  obtain ⟨D, cI, cB, cZ, hK⟩ := start_K hts
  have hZ := start_Z hts hgv
  have hw : ∀ w ∈ wsL_law, w.before #[Value.ref b] s = true := fun w h => hts w (wsL_law_in w h)
  have hb : c.code = cL_law := hb
  have hown : s.vm.findClass RL = some m.cls := hown
  have hF : CallFix p m c cL_law 4 s #[Value.ref b] wsL_law RL := ⟨hx, hb, hml, hown, hw⟩
  have hS : va_S (fun q : Nat => s.heap.size ≤ q) s.heap s.heap [] := va_S.rf
  have hP : va_P D vwCl [] s.heap := fun k q h => by simp at h
  have hD : va_D (fun q : Nat => s.heap.size ≤ q) [] := ⟨fun i j p q h => by simp at h, fun k q h => by simp at h⟩
  have hl := lv_entry ([.ref b]) (n := 4) (Nat.le_of_ble_eq_true rfl)
  rw [lg_entry_eq]
  generalize (lg_sl ([.ref b]) ++ List.replicate (4 - (lg_sl ([.ref b])).length) Slot.unset).toArray = ls at hl ⊢
  have hl : lv_has ls 4 [(0, .ref b)] := hl
  have uX10 : ∀ w ∈ u_ws RX10 TX10 12, w ∈ wsX100 := by decide +kernel
  have uX11 : ∀ w ∈ u_ws RX11 TX11 25, w ∈ wsX110 := by decide +kernel
  refine va_new (ci := 9) (fs := [.null, .null, .null, .null, .null, .null, .null, .null, .null, .null, .int 0, .long 0]) (C := RX10) (T := TX10) (N := 12) hx hb hts (fun w h => inX10 w (uX10 w h)) tyX10 tyX10_ok hown (hw (.classLink RL 7 RX10) (by decide +kernel)) (hw (.instantiable RX10 12) (by decide +kernel)) (hw (.initialized RX10) (by decide +kernel)) hK hP hD hS hA rfl (fun j hj => by rcases (show j = 0 ∨ j = 1 ∨ j = 2 ∨ j = 3 ∨ j = 4 ∨ j = 5 ∨ j = 6 ∨ j = 7 ∨ j = 8 ∨ j = 9 ∨ j = 10 ∨ j = 11 by omega) with rfl | rfl | rfl | rfl | rfl | rfl | rfl | rfl | rfl | rfl | rfl | rfl <;> rfl) (Nat.le_of_ble_eq_true rfl) (Nat.le_of_ble_eq_true rfl) dL_law_0 (fun x0 H hP hD hS => ?_)
  refine lv_dup hx hb dL_law_3 rfl ?_
  have hN : (fun U => va_Nw (.methodLinkNest RX10 9 yX6_init "NoWordNo") U ∧ va_Nw (.methodLinkNest RX10 18 yX8_init "NoWordNo") U ∧ va_Nw (.methodLinkNest RX10 25 yX0_init "NoWordNo") U) s := ⟨va_Nw.of (A := #[Value.ref b]) rfl (hts (.methodLinkNest RX10 9 yX6_init "NoWordNo") (List.mem_append_right _ (by decide +kernel))), va_Nw.of (A := #[Value.ref b]) rfl (hts (.methodLinkNest RX10 18 yX8_init "NoWordNo") (List.mem_append_right _ (by decide +kernel))), va_Nw.of (A := #[Value.ref b]) rfl (hts (.methodLinkNest RX10 25 yX0_init "NoWordNo") (List.mem_append_right _ (by decide +kernel)))⟩
  refine q_nIN (N := (fun U => va_Nw (.methodLinkNest RX10 9 yX6_init "NoWordNo") U ∧ va_Nw (.methodLinkNest RX10 18 yX8_init "NoWordNo") U ∧ va_Nw (.methodLinkNest RX10 25 yX0_init "NoWordNo") U)) (mc := 33) (ms := 2484) (bytes := cX10_init) (maxL := 1) (As := []) (rest := [.ref x0]) hF hA hK (ws := [(x0, .inr (9, [.null, .null, .null, .null, .null, .null, .null, .null, .null, .null, .int 0, .long 0]))]) hP hD hS (n_X10 l D cI cB cZ x0) (fun U g mk a h => ⟨va_Nw.same (u := U) rfl rfl h.1, va_Nw.same (u := U) rfl rfl h.2.1, va_Nw.same (u := U) rfl rfl h.2.2⟩) (fun U hW => ⟨va_Nw.warmM hW hN.1, va_Nw.warmM hW hN.2.1, va_Nw.warmM hW hN.2.2⟩) rfl ggL_law_X10_init (hw (.initialized RX10) (by decide +kernel)) (hw (.methodLink RL 9 yX10_init) (by decide +kernel)) (hw (.instanceMethod yX10_init) (by decide +kernel)) rfl (by decide +kernel) ⟨rfl, rfl⟩ (Nat.le_of_ble_eq_true rfl) (Nat.le_of_ble_eq_true rfl) [0] [] rfl rfl rfl rfl (by decide) hl.1 rfl (Nat.le_of_ble_eq_true rfl) (Nat.le_of_ble_eq_true rfl) (Nat.le_of_ble_eq_true rfl) dL_law_4 (fun H locs W1 hW hP hD hS => ?_)
  obtain ⟨q5, q8_9, q16, q6_20, q14_20, q27, q7_31, q15_31, q22_31, q38, q7_42, q15_42, q22_42, q49, q7_53, q15_53, q22_53, q60, q79, q6_91, q19_91, q27_91, q48_91, q98, q8_106, q17_106, q25_106, q113, q121, q8_129, q17_129, q25_129, q139, rfl⟩ := hW
  refine lv_astore_n (lv' := [(1, .ref x0), (0, .ref b)]) hx hb dL_law_7 rfl hl (by decide) rfl (fun ls hl => ?_)
  refine va_new (ci := 10) (fs := [.long 0, .null, .int 0, .int 0, .int 0, .null, .int 0, .int 0, .int 0, .int 0, .int 0, .null, .null, .null, .null, .null, .null, .null, .null, .null, .int 0, .int 0, .null, .null, .int 0]) (C := RX11) (T := TX11) (N := 25) hx hb hts (fun w h => inX11 w (uX11 w h)) tyX11 tyX11_ok hown (hw (.classLink RL 10 RX11) (by decide +kernel)) (hw (.instantiable RX11 25) (by decide +kernel)) (hw (.initialized RX11) (by decide +kernel)) hK hP hD hS hA rfl (fun j hj => by rcases (show j = 0 ∨ j = 1 ∨ j = 2 ∨ j = 3 ∨ j = 4 ∨ j = 5 ∨ j = 6 ∨ j = 7 ∨ j = 8 ∨ j = 9 ∨ j = 10 ∨ j = 11 ∨ j = 12 ∨ j = 13 ∨ j = 14 ∨ j = 15 ∨ j = 16 ∨ j = 17 ∨ j = 18 ∨ j = 19 ∨ j = 20 ∨ j = 21 ∨ j = 22 ∨ j = 23 ∨ j = 24 by omega) with rfl | rfl | rfl | rfl | rfl | rfl | rfl | rfl | rfl | rfl | rfl | rfl | rfl | rfl | rfl | rfl | rfl | rfl | rfl | rfl | rfl | rfl | rfl | rfl | rfl <;> rfl) (Nat.le_of_ble_eq_true rfl) (Nat.le_of_ble_eq_true rfl) dL_law_8 (fun y0 H hP hD hS => ?_)
  have hP : va_P D vwCl [(x0, .inr (9, [.ref q5, .ref q16, .ref q27, .ref q38, .ref q49, .ref q60, .ref q79, .ref q98, .ref q113, .ref q139, .int 0, .long 0])), (q5, .inr (5, [.ref q8_9, .int 0])), (q8_9, .inl (cI, 200, .inl (fun _ => 0))), (q16, .inr (7, [.ref q6_20, .ref q14_20, .int 0, .int 1])), (q6_20, .inl (cI, 3, .inl (fun _ => 0))), (q14_20, .inl (cI, 30, .inl (fun _ => 0))), (q27, .inr (0, [.ref q7_31, .ref q15_31, .ref q22_31, .int 0, .int 0, .int 0])), (q7_31, .inl (cI, 8, .inl (fun _ => 0))), (q15_31, .inl (cI, 8, .inl (fun _ => 0))), (q22_31, .inl (cI, 3, .inl (fun _ => 0))), (q38, .inr (0, [.ref q7_42, .ref q15_42, .ref q22_42, .int 0, .int 0, .int 0])), (q7_42, .inl (cI, 8, .inl (fun _ => 0))), (q15_42, .inl (cI, 8, .inl (fun _ => 0))), (q22_42, .inl (cI, 3, .inl (fun _ => 0))), (q49, .inr (0, [.ref q7_53, .ref q15_53, .ref q22_53, .int 0, .int 0, .int 0])), (q7_53, .inl (cI, 8, .inl (fun _ => 0))), (q15_53, .inl (cI, 8, .inl (fun _ => 0))), (q22_53, .inl (cI, 3, .inl (fun _ => 0))), (q60, .inr (4, [.ref q16, .ref q27])), (q79, .inr (2, [.ref q48_91, .ref q60, .ref q6_91, .int 0, .ref q19_91, .ref q27_91, .int 0, .int 0, .int 1])), (q6_91, .inl (cI, 3, .inl (fun _ => 0))), (q19_91, .inl (cI, 10, .inl (fun _ => 0))), (q27_91, .inl (cI, 10, .inl (fun _ => 0))), (q48_91, .inr (6, [.ref q5, .int 0, .int 0, .int 0])), (q98, .inr (1, [.ref q60, .ref q8_106, .ref q17_106, .ref q25_106, .int 0])), (q8_106, .inl (cI, 512, .inl (fun _ => 0))), (q17_106, .inl (cI, 512, .inl (fun _ => 0))), (q25_106, .inl (cI, 34, .inl (fun _ => 0))), (q121, .inr (1, [.ref q60, .ref q8_129, .ref q17_129, .ref q25_129, .int 0])), (q8_129, .inl (cI, 512, .inl (fun _ => 0))), (q17_129, .inl (cI, 512, .inl (fun _ => 0))), (q25_129, .inl (cI, 34, .inl (fun _ => 0))), (q113, .inr (3, [.ref q16, .ref q121, .int 0, .int 0, .int 0])), (q139, .inr (8, [.ref q16])), (y0, .inr (10, [.long 0, .null, .int 0, .int 0, .int 0, .null, .int 0, .int 0, .int 0, .int 0, .int 0, .null, .null, .null, .null, .null, .null, .null, .null, .null, .int 0, .int 0, .null, .null, .int 0]))] H := hP
  have hD : va_D (fun q : Nat => s.heap.size ≤ q) [(x0, .inr (9, [.ref q5, .ref q16, .ref q27, .ref q38, .ref q49, .ref q60, .ref q79, .ref q98, .ref q113, .ref q139, .int 0, .long 0])), (q5, .inr (5, [.ref q8_9, .int 0])), (q8_9, .inl (cI, 200, .inl (fun _ => 0))), (q16, .inr (7, [.ref q6_20, .ref q14_20, .int 0, .int 1])), (q6_20, .inl (cI, 3, .inl (fun _ => 0))), (q14_20, .inl (cI, 30, .inl (fun _ => 0))), (q27, .inr (0, [.ref q7_31, .ref q15_31, .ref q22_31, .int 0, .int 0, .int 0])), (q7_31, .inl (cI, 8, .inl (fun _ => 0))), (q15_31, .inl (cI, 8, .inl (fun _ => 0))), (q22_31, .inl (cI, 3, .inl (fun _ => 0))), (q38, .inr (0, [.ref q7_42, .ref q15_42, .ref q22_42, .int 0, .int 0, .int 0])), (q7_42, .inl (cI, 8, .inl (fun _ => 0))), (q15_42, .inl (cI, 8, .inl (fun _ => 0))), (q22_42, .inl (cI, 3, .inl (fun _ => 0))), (q49, .inr (0, [.ref q7_53, .ref q15_53, .ref q22_53, .int 0, .int 0, .int 0])), (q7_53, .inl (cI, 8, .inl (fun _ => 0))), (q15_53, .inl (cI, 8, .inl (fun _ => 0))), (q22_53, .inl (cI, 3, .inl (fun _ => 0))), (q60, .inr (4, [.ref q16, .ref q27])), (q79, .inr (2, [.ref q48_91, .ref q60, .ref q6_91, .int 0, .ref q19_91, .ref q27_91, .int 0, .int 0, .int 1])), (q6_91, .inl (cI, 3, .inl (fun _ => 0))), (q19_91, .inl (cI, 10, .inl (fun _ => 0))), (q27_91, .inl (cI, 10, .inl (fun _ => 0))), (q48_91, .inr (6, [.ref q5, .int 0, .int 0, .int 0])), (q98, .inr (1, [.ref q60, .ref q8_106, .ref q17_106, .ref q25_106, .int 0])), (q8_106, .inl (cI, 512, .inl (fun _ => 0))), (q17_106, .inl (cI, 512, .inl (fun _ => 0))), (q25_106, .inl (cI, 34, .inl (fun _ => 0))), (q121, .inr (1, [.ref q60, .ref q8_129, .ref q17_129, .ref q25_129, .int 0])), (q8_129, .inl (cI, 512, .inl (fun _ => 0))), (q17_129, .inl (cI, 512, .inl (fun _ => 0))), (q25_129, .inl (cI, 34, .inl (fun _ => 0))), (q113, .inr (3, [.ref q16, .ref q121, .int 0, .int 0, .int 0])), (q139, .inr (8, [.ref q16])), (y0, .inr (10, [.long 0, .null, .int 0, .int 0, .int 0, .null, .int 0, .int 0, .int 0, .int 0, .int 0, .null, .null, .null, .null, .null, .null, .null, .null, .null, .int 0, .int 0, .null, .null, .int 0]))] := hD
  refine lv_dup hx hb dL_law_11 rfl ?_
  refine q_nI (mc := 13) (ms := 1315) (bytes := cX11_init) (maxL := 1) (As := []) (rest := [.ref y0]) hF hA hK (ws := [(x0, .inr (9, [.ref q5, .ref q16, .ref q27, .ref q38, .ref q49, .ref q60, .ref q79, .ref q98, .ref q113, .ref q139, .int 0, .long 0])), (q5, .inr (5, [.ref q8_9, .int 0])), (q8_9, .inl (cI, 200, .inl (fun _ => 0))), (q16, .inr (7, [.ref q6_20, .ref q14_20, .int 0, .int 1])), (q6_20, .inl (cI, 3, .inl (fun _ => 0))), (q14_20, .inl (cI, 30, .inl (fun _ => 0))), (q27, .inr (0, [.ref q7_31, .ref q15_31, .ref q22_31, .int 0, .int 0, .int 0])), (q7_31, .inl (cI, 8, .inl (fun _ => 0))), (q15_31, .inl (cI, 8, .inl (fun _ => 0))), (q22_31, .inl (cI, 3, .inl (fun _ => 0))), (q38, .inr (0, [.ref q7_42, .ref q15_42, .ref q22_42, .int 0, .int 0, .int 0])), (q7_42, .inl (cI, 8, .inl (fun _ => 0))), (q15_42, .inl (cI, 8, .inl (fun _ => 0))), (q22_42, .inl (cI, 3, .inl (fun _ => 0))), (q49, .inr (0, [.ref q7_53, .ref q15_53, .ref q22_53, .int 0, .int 0, .int 0])), (q7_53, .inl (cI, 8, .inl (fun _ => 0))), (q15_53, .inl (cI, 8, .inl (fun _ => 0))), (q22_53, .inl (cI, 3, .inl (fun _ => 0))), (q60, .inr (4, [.ref q16, .ref q27])), (q79, .inr (2, [.ref q48_91, .ref q60, .ref q6_91, .int 0, .ref q19_91, .ref q27_91, .int 0, .int 0, .int 1])), (q6_91, .inl (cI, 3, .inl (fun _ => 0))), (q19_91, .inl (cI, 10, .inl (fun _ => 0))), (q27_91, .inl (cI, 10, .inl (fun _ => 0))), (q48_91, .inr (6, [.ref q5, .int 0, .int 0, .int 0])), (q98, .inr (1, [.ref q60, .ref q8_106, .ref q17_106, .ref q25_106, .int 0])), (q8_106, .inl (cI, 512, .inl (fun _ => 0))), (q17_106, .inl (cI, 512, .inl (fun _ => 0))), (q25_106, .inl (cI, 34, .inl (fun _ => 0))), (q121, .inr (1, [.ref q60, .ref q8_129, .ref q17_129, .ref q25_129, .int 0])), (q8_129, .inl (cI, 512, .inl (fun _ => 0))), (q17_129, .inl (cI, 512, .inl (fun _ => 0))), (q25_129, .inl (cI, 34, .inl (fun _ => 0))), (q113, .inr (3, [.ref q16, .ref q121, .int 0, .int 0, .int 0])), (q139, .inr (8, [.ref q16])), (y0, .inr (10, [.long 0, .null, .int 0, .int 0, .int 0, .null, .int 0, .int 0, .int 0, .int 0, .int 0, .null, .null, .null, .null, .null, .null, .null, .null, .null, .int 0, .int 0, .null, .null, .int 0]))]) hP hD hS (n_X11 l D cI cB cZ y0) rfl ggL_law_X11_init (hw (.initialized RX11) (by decide +kernel)) (hw (.methodLink RL 12 yX11_init) (by decide +kernel)) (hw (.instanceMethod yX11_init) (by decide +kernel)) rfl (by decide +kernel) ⟨rfl, rfl⟩ (Nat.le_of_ble_eq_true rfl) (Nat.le_of_ble_eq_true rfl) [34] [0, 1, 2, 3, 4, 5, 6, 7, 8, 9, 10, 11, 12, 13, 14, 15, 16, 17, 18, 19, 20, 21, 22, 23, 24, 25, 26, 27, 28, 29, 30, 31, 32, 33] rfl rfl rfl rfl (by decide +kernel) hl.1 rfl (Nat.le_of_ble_eq_true rfl) (Nat.le_of_ble_eq_true rfl) (Nat.le_of_ble_eq_true rfl) dL_law_12 (fun H locs W1 hW hP hD hS => ?_)
  obtain ⟨mq8, mq15, mq22, mq29, mq37, mq45, mq52, mq60, mq67, mq75, mq83, mq92, mq101, rfl⟩ := hW
  refine lv_astore_n (lv' := [(2, .ref y0), (1, .ref x0), (0, .ref b)]) hx hb dL_law_15 rfl hl (by decide) rfl (fun ls hl => ?_)
  refine lv_iconst (v := 0) hx hb dL_law_16 ic_0 ?_
  refine lv_istore_n (lv' := [(3, .int 0), (2, .ref y0), (1, .ref x0), (0, .ref b)]) hx hb dL_law_17 rfl hl (by decide) rfl (fun ls hl => ?_)
  exact law_loop (ad := fun k => [x0, q5, q8_9, q16, q6_20, q14_20, q27, q7_31, q15_31, q22_31, q38, q7_42, q15_42, q22_42, q49, q7_53, q15_53, q22_53, q60, q79, q6_91, q19_91, q27_91, q48_91, q98, q8_106, q17_106, q25_106, q121, q8_129, q17_129, q25_129, q113, q139, y0, mq8, mq15, mq22, mq29, mq37, mq45, mq52, mq60, mq67, mq75, mq83, mq92, mq101].getD k 0) hF hA hZ hK hX hbl hbA hL (fun H locs pc ls hS hd => va_forget (fun q hq => hS.2.2 q hq) (lw_ret hx hb hr hlocks hd)) (L + 5) 0 (by omega) (by omega) 0 0 0 (fun _ => 0) 0 1 (fun _ => 0) (fun _ => 0) 0 0 0 (fun _ => 0) (fun _ => 0) (fun _ => 0) 0 0 0 (fun _ => 0) (fun _ => 0) (fun _ => 0) 0 0 0 (fun _ => 0) (fun _ => 0) (fun _ => 0) 0 0 0 1 (fun _ => 0) (fun _ => 0) (fun _ => 0) 0 0 0 0 (fun _ => 0) (fun _ => 0) (fun _ => 0) 0 (fun _ => 0) (fun _ => 0) (fun _ => 0) 0 0 0 0 0 0 1 0 0 0 0 0 0 0 0 (fun _ => 0) (fun _ => 0) (fun _ => 0) (fun _ => 0) (fun _ => 0) (fun _ => 0) (fun _ => 0) (fun _ => 0) (fun _ => 0) (fun _ => 0) (fun _ => 0) (fun _ => 0) (fun _ => 0) H locs ls (init_R _ _ _ _ _ _ _ _ _ _ _ _ _ _ _ _ _ _ _ _ _ rfl rfl rfl rfl) hP hD hS (lv_sub hl [3, 2, 1, 0] rfl)
set_option maxHeartbeats 4000000 in
theorem lw_walk (l : Launch) (hflags : l.flags = flags0) (b : Addr) (xs : List Int32) : MetFree l x (headSpec (Jvm.Cond.code x code maxLocals ret :: tables_1) room_1) (lw_P b xs) (fun _ _ _ _ _ => True) lw_Q := by
  refine MetFree.of_bodyS (code := code) (maxLocals := maxLocals) (ret := ret) (by decide) ?_ ?_
  · intro args s m h hn
    obtain ⟨meth, c, h1, h2, h3, h4, h5, h6, -, -⟩ := Cond.code_spec hn (atoms_spec (ws := Jvm.Cond.code x code maxLocals ret :: tables_1) h _ List.mem_cons_self)
    exact ⟨meth, c, h1, h2, h3, h4, h5, h6⟩
  · intro p e s m args below meth c s₁ B hml0 hP _
    obtain ⟨rfl, hx, hbd, hgv⟩ := hP
    obtain ⟨scr, harrAt, hlist, hof, hsmall⟩ := hx
    obtain ⟨hcb, hkn, -, -⟩ := State.arrayAt?_spec harrAt
    have hown : s.vm.findClass R_law = some m.cls := findClass_of_methodNamed B.named
    have hts0 : ∀ c ∈ (Jvm.Cond.code x code maxLocals ret :: tables_1), c.before #[Value.ref b] s = true := atoms_spec (ws := Jvm.Cond.code x code maxLocals ret :: tables_1) B.pre
    have hts : ∀ w ∈ lw_tbl, w.before #[Value.ref b] s = true := k2_hts_sels lw_privs (fun w hw => hts0 w (List.mem_cons_of_mem _ hw)) lw_privs_ok
    have hml : c.maxLocals = 4 := B.maxLocals_eq (hts0 _ List.mem_cons_self)
    have X₀ : Stand p l e room_1 s m #[Value.ref b] below meth c s₁ [] 0 0 := Stand.of_body B
    have hh0 : s₁.heap = s.heap := by rw [B.state]; rfl
    have hsz : scr.slots.size = xs.length := by rw [← Array.length_toList, hlist, List.length_map]
    have hval : ∀ j : Nat, j < xs.length → scr.slots[j]? = some (.int (xs.getD j 0)) := fun j hj => by
      rw [← Array.getElem?_toList, hlist]
      simp [hj]
    have hbl : b < s.heap.size := (Array.getElem?_eq_some_iff.mp hcb).1
    have hX : va_X b xs.length (fun j => xs.getD j 0) s s.heap := ⟨scr, hcb, hof, hkn, hsz, hval⟩
    have K : W p l e room_1 s m #[Value.ref b] below meth c s₁.heap [] 0 0 (lw_Z below #[Value.ref b] s) (entryFrame m ([Value.ref b] : List Value).toArray 4) := by
      rw [hh0]
      exact whole_start l hflags hbd ⟨B.exec, B.bytes, B.returns, hml, hown, hts, hX, hbl, B.notSynchronized, hgv⟩
    obtain ⟨t, a1, o, b1, b2, b3⟩ := K s₁ rfl X₀
    exact ⟨t, o, a1, b1, b2, b3⟩
theorem lw_pre_spec {args : Array Value} {s : State} (h : (Jvm.Cond.and given_1 narrow_1).before args s = true) (hr : rest_1_c.before args s = true) : ∃ (b : Addr) (xs : List Int32), lw_P b xs args s := by
  have hs := flat_of_before _ h
  have hq := flat_of_before _ hr
  have hc : (Cond.count 1).before args s = true := hs _ (by decide +kernel)
  have harr : (Cond.arrayOf (.arg 0) .int).before args s = true := hs _ (by decide +kernel)
  have hle : (Cond.le (.length (.arg 0)) (.int 2048)).before args s = true := hs _ (by decide +kernel)
  have hlen : (Cond.isInt (.length (.arg 0))).before args s = true := hq _ (by decide +kernel)
  have hall : (Cond.all (.arg 0) (.isInt (.elem (.arg 0) (.index 0)))).before args s = true := hq _ (by decide +kernel)
  obtain ⟨b, xs, hb, hx⟩ := State.ints_of_pre rfl harr hlen hall
  have hsm : xs.length < 2 ^ 31 := hx.choose_spec.2.2.2
  have hev : (Term.length (.arg 0)).eval args s none [] s = some (.int xs.length.toInt32) := hx.length_eval hb
  have hv := Cond.le_ints hev (show (Term.int 2048).eval args s none [] s = some (.int 2048) from rfl)
  have hd : xs.length.toInt32 ≤ 2048 := by
    simpa [Cond.before, Cond.holds, hv] using hle
  have hN : xs.length ≤ 2048 := (Int32.ofNat_le_ofNat hsm (by decide)).mp (show Int32.ofNat xs.length ≤ Int32.ofNat 2048 from hd)
  exact ⟨b, xs, Cond.one_arg hc (show args[0]? = some (.ref b) from hb), hx, hN, h⟩
theorem lw_comes (l : Launch) (hflags : l.flags = flags0) : Comes l x (Jvm.Cond.code x code maxLocals ret :: tables_1) room_1 (fun tb e args s => Calls_1 tb e args s ∧ rest_1 tb e args s ∧ Pre_1 tb e args s)
    (fun _ _ args s o t => lw_Q args s o t) := by
  intro p e ha hc hk s m args below hf hfit hheap happ hpre
  obtain ⟨b, xs, hP⟩ := lw_pre_spec hpre.2.2 hpre.2.1
  obtain ⟨k, o, h1, h2, h3, hQ⟩ := lw_walk l hflags b xs p e ha hc hk s m args below hf ((Spec.applies_iff_loose hf).mp happ).1 hP trivial
  exact ⟨k, o, h1, h2, h3, hQ⟩
theorem lw_frame {s t : State} {o : Outcome} {args : Array Value} (h : Framed s o t [] 48 3836) :
    Framed s o t (fieldLocs frame_1_writes args s ++ arrayLocs frame_1_arrays args s ++ staticLocs frame_1_statics s) 48 3836 := h
theorem lw_limb (L : Cond) (hL : ∀ (args : Array Value) (s t : State), L.after args s (.returned (some (.int 1))) t = true) :
    ArmFor flags0 classFile x code maxLocals ret World_1 tables_1 room_1 Calls_1 rest_1 Pre_1
      (fun tb e a s o t => postC L tb e a s o t ∧ Framed s o t (fieldLocs frame_1_writes a s ++ arrayLocs frame_1_arrays a s ++ staticLocs frame_1_statics s) 48 3836) := by
  intro l hflags _ _ p e ha hc hk s m args below hf hfit hheap happ hpre
  obtain ⟨k, o, h1, h2, h3, rfl, hF⟩ := lw_comes l hflags p e ha hc hk s m args below hf hfit hheap happ hpre
  exact ⟨k, _, h1, h2, h3, hL args s _, lw_frame hF⟩
theorem i_vc : Claimed_1_1 ∧ Claimed_1_2 := ⟨lw_limb limb_1_1 (fun args s t => by simp [limb_1_1, Cond.after, Cond.holds, Cond.value]), lw_limb limb_1_2 (fun args s t => Cond.after_iff.mpr (by
  first | (rw [show limb_1_2 = Cond.eq .result (.int 1) from rfl, Cond.eq_ints (x := 1) (y := 1) rfl rfl]; simp; done) | (simp [limb_1_2, Cond.value, Term.eval]; done)))⟩
