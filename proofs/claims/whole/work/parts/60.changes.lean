/-! the calls that change something -/
theorem shortest_R {me : Int32} {tr : Int64} {sz : Int32} {tB : AR} {ch wo : Int32} {sv sf : AR} {s0 w0 g0 : Int32} {L0 S0 W0 : AR} {s1 w1 g1 : Int32} {L1 S1 W1 : AR} {s2 w2 g2 : Int32} {L2 S2 W2 : AR} {ll : AR} {sg sm kn : Int32} {mtr : Int64} {mt mch mwo : Int32} {mx mv ms mL mS mws mw mk : AR} (h : RR me tr sz tB ch wo sv sf s0 w0 g0 L0 S0 W0 s1 w1 g1 L1 S1 W1 s2 w2 g2 L2 S2 W2 ll sg sm kn mtr mt mch mwo mx mv ms mL mS mws mw mk) (p : Int32) (cc : Int32) (lo ls : AR) (dd : Int32) (dl dO : AR) : ∃ r me' c' ll' o' s' d' e' f', P_X10_shortest p me ch wo sv sf w0 W0 cc ll lo ls = some (r, me', c', ll', o', s') ∧ P_X11_shortest p mch mwo dd mv mws mw dl dO = some (r, d', e', f') ∧ RR me' tr sz tB ch wo sv sf s0 w0 g0 L0 S0 W0 s1 w1 g1 L1 S1 W1 s2 w2 g2 L2 S2 W2 ll' sg sm kn mtr mt mch mwo mx mv ms mL mS mws mw mk := by
  have hR := h
  obtain ⟨n, bb, k, vs, W, ns, sl, sn, nw, wl, rfl, rfl, hT, rfl, rfl, rfl, rfl, hC, hM, hK, hI1, hI2, htr, hme, hkn⟩ := h
  obtain ⟨hw1, hw2⟩ := KE_WD hK
  have hK' := hK
  obtain ⟨rfl, rfl, a3, a4, a5, a6, a7, a8⟩ := hK'
  have h9 := hC.1.le
  have hS : SPW k vs W nw wl sv sf W0 mv mws mw := ⟨hC, hM, a6, hw1, hw2⟩
  have hf : ∀ j, j < ns → L0 j = nI (sl j) := fun j hj => (a7 j hj).1
  have hg : ∀ j, j < ns → mL j = nI (sl j) := fun j hj => by have := (a7 j hj).2.2.2.1; rwa [show 8 * 0 + j = j by omega] at this
  have hg2 : ∀ j, j < ns → mS j = sn j := fun j hj => by have := (a7 j hj).2.2.2.2; rwa [show 8 * 0 + j = j by omega] at this
  obtain ⟨r, me', c', ll', o', s', d', e', f', x1, x2, hm2⟩ := shortest_eq hS p hme cc lo ls dd dl dO
  exact ⟨r, me', c', ll', o', s', d', e', f', x1, x2, ⟨n, bb, k, vs, W, ns, sl, sn, nw, wl, rfl, rfl, hT, rfl, rfl, rfl, rfl, hC, hM, hK, hI1, hI2, htr, hm2, hkn⟩⟩
theorem made_R {me : Int32} {tr : Int64} {sz : Int32} {tB : AR} {ch wo : Int32} {sv sf : AR} {s0 w0 g0 : Int32} {L0 S0 W0 : AR} {s1 w1 g1 : Int32} {L1 S1 W1 : AR} {s2 w2 g2 : Int32} {L2 S2 W2 : AR} {ll : AR} {sg sm kn : Int32} {mtr : Int64} {mt mch mwo : Int32} {mx mv ms mL mS mws mw mk : AR} (h : RR me tr sz tB ch wo sv sf s0 w0 g0 L0 S0 W0 s1 w1 g1 L1 S1 W1 s2 w2 g2 L2 S2 W2 ll sg sm kn mtr mt mch mwo mx mv ms mL mS mws mw mk) (p q : Int32) (cc : Int32) (lo ls : AR) (dd : Int32) (dl dO : AR) : ∃ r me' c' ll' o' s' d' e' f', P_X10_made p q me ch wo sv sf w0 W0 cc ll lo ls = some (r, me', c', ll', o', s') ∧ P_X11_made p q mch mwo dd mv mws mw dl dO = some (r, d', e', f') ∧ RR me' tr sz tB ch wo sv sf s0 w0 g0 L0 S0 W0 s1 w1 g1 L1 S1 W1 s2 w2 g2 L2 S2 W2 ll' sg sm kn mtr mt mch mwo mx mv ms mL mS mws mw mk := by
  have hR := h
  obtain ⟨n, bb, k, vs, W, ns, sl, sn, nw, wl, rfl, rfl, hT, rfl, rfl, rfl, rfl, hC, hM, hK, hI1, hI2, htr, hme, hkn⟩ := h
  obtain ⟨hw1, hw2⟩ := KE_WD hK
  have hK' := hK
  obtain ⟨rfl, rfl, a3, a4, a5, a6, a7, a8⟩ := hK'
  have h9 := hC.1.le
  have hS : SPW k vs W nw wl sv sf W0 mv mws mw := ⟨hC, hM, a6, hw1, hw2⟩
  have hf : ∀ j, j < ns → L0 j = nI (sl j) := fun j hj => (a7 j hj).1
  have hg : ∀ j, j < ns → mL j = nI (sl j) := fun j hj => by have := (a7 j hj).2.2.2.1; rwa [show 8 * 0 + j = j by omega] at this
  have hg2 : ∀ j, j < ns → mS j = sn j := fun j hj => by have := (a7 j hj).2.2.2.2; rwa [show 8 * 0 + j = j by omega] at this
  obtain ⟨r, me', c', ll', o', s', d', e', f', x1, x2, hm2⟩ := made_eq hS p q hme cc lo ls dd dl dO
  exact ⟨r, me', c', ll', o', s', d', e', f', x1, x2, ⟨n, bb, k, vs, W, ns, sl, sn, nw, wl, rfl, rfl, hT, rfl, rfl, rfl, rfl, hC, hM, hK, hI1, hI2, htr, hm2, hkn⟩⟩
theorem refusal_R {me : Int32} {tr : Int64} {sz : Int32} {tB : AR} {ch wo : Int32} {sv sf : AR} {s0 w0 g0 : Int32} {L0 S0 W0 : AR} {s1 w1 g1 : Int32} {L1 S1 W1 : AR} {s2 w2 g2 : Int32} {L2 S2 W2 : AR} {ll : AR} {sg sm kn : Int32} {mtr : Int64} {mt mch mwo : Int32} {mx mv ms mL mS mws mw mk : AR} (h : RR me tr sz tB ch wo sv sf s0 w0 g0 L0 S0 W0 s1 w1 g1 L1 S1 W1 s2 w2 g2 L2 S2 W2 ll sg sm kn mtr mt mch mwo mx mv ms mL mS mws mw mk) (p : Int32) (cc : Int32) (lo ls : AR) (dd : Int32) (dl dO : AR) : ∃ r me' c' ll' o' s' d' e' f', P_X10_refusal p me ch wo sv sf w0 W0 cc ll lo ls = some (r, me', c', ll', o', s') ∧ P_X11_refusal p mch mwo dd mv mws mw dl dO = some (r, d', e', f') ∧ RR me' tr sz tB ch wo sv sf s0 w0 g0 L0 S0 W0 s1 w1 g1 L1 S1 W1 s2 w2 g2 L2 S2 W2 ll' sg sm kn mtr mt mch mwo mx mv ms mL mS mws mw mk := by
  have hR := h
  obtain ⟨n, bb, k, vs, W, ns, sl, sn, nw, wl, rfl, rfl, hT, rfl, rfl, rfl, rfl, hC, hM, hK, hI1, hI2, htr, hme, hkn⟩ := h
  obtain ⟨hw1, hw2⟩ := KE_WD hK
  have hK' := hK
  obtain ⟨rfl, rfl, a3, a4, a5, a6, a7, a8⟩ := hK'
  have h9 := hC.1.le
  have hS : SPW k vs W nw wl sv sf W0 mv mws mw := ⟨hC, hM, a6, hw1, hw2⟩
  have hf : ∀ j, j < ns → L0 j = nI (sl j) := fun j hj => (a7 j hj).1
  have hg : ∀ j, j < ns → mL j = nI (sl j) := fun j hj => by have := (a7 j hj).2.2.2.1; rwa [show 8 * 0 + j = j by omega] at this
  have hg2 : ∀ j, j < ns → mS j = sn j := fun j hj => by have := (a7 j hj).2.2.2.2; rwa [show 8 * 0 + j = j by omega] at this
  obtain ⟨r, me', c', ll', o', s', d', e', f', x1, x2, hm2⟩ := refusal_eq hS p hme cc lo ls dd dl dO
  exact ⟨r, me', c', ll', o', s', d', e', f', x1, x2, ⟨n, bb, k, vs, W, ns, sl, sn, nw, wl, rfl, rfl, hT, rfl, rfl, rfl, rfl, hC, hM, hK, hI1, hI2, htr, hm2, hkn⟩⟩
theorem worst_R {me : Int32} {tr : Int64} {sz : Int32} {tB : AR} {ch wo : Int32} {sv sf : AR} {s0 w0 g0 : Int32} {L0 S0 W0 : AR} {s1 w1 g1 : Int32} {L1 S1 W1 : AR} {s2 w2 g2 : Int32} {L2 S2 W2 : AR} {ll : AR} {sg sm kn : Int32} {mtr : Int64} {mt mch mwo : Int32} {mx mv ms mL mS mws mw mk : AR} (h : RR me tr sz tB ch wo sv sf s0 w0 g0 L0 S0 W0 s1 w1 g1 L1 S1 W1 s2 w2 g2 L2 S2 W2 ll sg sm kn mtr mt mch mwo mx mv ms mL mS mws mw mk) (p : Int32) (cc : Int32) (lo ls : AR) (dd : Int32) (dl dO : AR) : ∃ r me' c' ll' o' s' d' e' f', P_X10_worst p me ch wo sv sf w0 W0 cc ll lo ls = some (r, me', c', ll', o', s') ∧ P_X11_worst p mch mwo dd mv mws mw dl dO = some (r, d', e', f') ∧ RR me' tr sz tB ch wo sv sf s0 w0 g0 L0 S0 W0 s1 w1 g1 L1 S1 W1 s2 w2 g2 L2 S2 W2 ll' sg sm kn mtr mt mch mwo mx mv ms mL mS mws mw mk := by
  have hR := h
  obtain ⟨n, bb, k, vs, W, ns, sl, sn, nw, wl, rfl, rfl, hT, rfl, rfl, rfl, rfl, hC, hM, hK, hI1, hI2, htr, hme, hkn⟩ := h
  obtain ⟨hw1, hw2⟩ := KE_WD hK
  have hK' := hK
  obtain ⟨rfl, rfl, a3, a4, a5, a6, a7, a8⟩ := hK'
  have h9 := hC.1.le
  have hS : SPW k vs W nw wl sv sf W0 mv mws mw := ⟨hC, hM, a6, hw1, hw2⟩
  have hf : ∀ j, j < ns → L0 j = nI (sl j) := fun j hj => (a7 j hj).1
  have hg : ∀ j, j < ns → mL j = nI (sl j) := fun j hj => by have := (a7 j hj).2.2.2.1; rwa [show 8 * 0 + j = j by omega] at this
  have hg2 : ∀ j, j < ns → mS j = sn j := fun j hj => by have := (a7 j hj).2.2.2.2; rwa [show 8 * 0 + j = j by omega] at this
  obtain ⟨r, me', c', ll', o', s', d', e', f', x1, x2, hm2⟩ := worst_eq hS p hme cc lo ls dd dl dO
  exact ⟨r, me', c', ll', o', s', d', e', f', x1, x2, ⟨n, bb, k, vs, W, ns, sl, sn, nw, wl, rfl, rfl, hT, rfl, rfl, rfl, rfl, hC, hM, hK, hI1, hI2, htr, hm2, hkn⟩⟩
theorem clause_R {me : Int32} {tr : Int64} {sz : Int32} {tB : AR} {ch wo : Int32} {sv sf : AR} {s0 w0 g0 : Int32} {L0 S0 W0 : AR} {s1 w1 g1 : Int32} {L1 S1 W1 : AR} {s2 w2 g2 : Int32} {L2 S2 W2 : AR} {ll : AR} {sg sm kn : Int32} {mtr : Int64} {mt mch mwo : Int32} {mx mv ms mL mS mws mw mk : AR} (h : RR me tr sz tB ch wo sv sf s0 w0 g0 L0 S0 W0 s1 w1 g1 L1 S1 W1 s2 w2 g2 L2 S2 W2 ll sg sm kn mtr mt mch mwo mx mv ms mL mS mws mw mk) (p q : Int32) (cc : Int32) (lo ls : AR) (dd : Int32) (dl dO : AR) : ∃ r me' c' ll' o' s' d' e' f', P_X10_clause p q me ch wo sv sf s0 w0 L0 W0 cc ll lo ls = some (r, me', c', ll', o', s') ∧ P_X11_clause p q mch mwo dd mv ms mL mws mw dl dO = some (r, d', e', f') ∧ RR me' tr sz tB ch wo sv sf s0 w0 g0 L0 S0 W0 s1 w1 g1 L1 S1 W1 s2 w2 g2 L2 S2 W2 ll' sg sm kn mtr mt mch mwo mx mv ms mL mS mws mw mk := by
  have hR := h
  obtain ⟨n, bb, k, vs, W, ns, sl, sn, nw, wl, rfl, rfl, hT, rfl, rfl, rfl, rfl, hC, hM, hK, hI1, hI2, htr, hme, hkn⟩ := h
  obtain ⟨hw1, hw2⟩ := KE_WD hK
  have hK' := hK
  obtain ⟨rfl, rfl, a3, a4, a5, a6, a7, a8⟩ := hK'
  have h9 := hC.1.le
  have hS : SPW k vs W nw wl sv sf W0 mv mws mw := ⟨hC, hM, a6, hw1, hw2⟩
  have hf : ∀ j, j < ns → L0 j = nI (sl j) := fun j hj => (a7 j hj).1
  have hg : ∀ j, j < ns → mL j = nI (sl j) := fun j hj => by have := (a7 j hj).2.2.2.1; rwa [show 8 * 0 + j = j by omega] at this
  have hg2 : ∀ j, j < ns → mS j = sn j := fun j hj => by have := (a7 j hj).2.2.2.2; rwa [show 8 * 0 + j = j by omega] at this
  obtain ⟨r, me', c', ll', o', s', d', e', f', x1, x2, hm2⟩ := clause_eq hS a3 a5 hf hg p q hme cc lo ls dd dl dO
  exact ⟨r, me', c', ll', o', s', d', e', f', x1, x2, ⟨n, bb, k, vs, W, ns, sl, sn, nw, wl, rfl, rfl, hT, rfl, rfl, rfl, rfl, hC, hM, hK, hI1, hI2, htr, hm2, hkn⟩⟩
theorem saves_R {me : Int32} {tr : Int64} {sz : Int32} {tB : AR} {ch wo : Int32} {sv sf : AR} {s0 w0 g0 : Int32} {L0 S0 W0 : AR} {s1 w1 g1 : Int32} {L1 S1 W1 : AR} {s2 w2 g2 : Int32} {L2 S2 W2 : AR} {ll : AR} {sg sm kn : Int32} {mtr : Int64} {mt mch mwo : Int32} {mx mv ms mL mS mws mw mk : AR} (h : RR me tr sz tB ch wo sv sf s0 w0 g0 L0 S0 W0 s1 w1 g1 L1 S1 W1 s2 w2 g2 L2 S2 W2 ll sg sm kn mtr mt mch mwo mx mv ms mL mS mws mw mk) (p : Int32) (cc : Int32) (l2 lo ls : AR) (dd : Int32) (dl dO : AR) : ∃ r sg' sm' kn' c' l' o' s' d' e' f', P_X10_saves p ch wo sv sf w0 W0 sg sm kn cc l2 lo ls = some (r, sg', sm', kn', c', l', o', s') ∧ P_X11_saves p mch mwo dd mv mws mw dl dO = some (r, d', e', f') ∧ RR me tr sz tB ch wo sv sf s0 w0 g0 L0 S0 W0 s1 w1 g1 L1 S1 W1 s2 w2 g2 L2 S2 W2 ll sg' sm' kn' mtr mt mch mwo mx mv ms mL mS mws mw mk := by
  have hR := h
  obtain ⟨n, bb, k, vs, W, ns, sl, sn, nw, wl, rfl, rfl, hT, rfl, rfl, rfl, rfl, hC, hM, hK, hI1, hI2, htr, hme, hkn⟩ := h
  obtain ⟨hw1, hw2⟩ := KE_WD hK
  have hK' := hK
  obtain ⟨rfl, rfl, a3, a4, a5, a6, a7, a8⟩ := hK'
  have h9 := hC.1.le
  have hS : SPW k vs W nw wl sv sf W0 mv mws mw := ⟨hC, hM, a6, hw1, hw2⟩
  have hf : ∀ j, j < ns → L0 j = nI (sl j) := fun j hj => (a7 j hj).1
  have hg : ∀ j, j < ns → mL j = nI (sl j) := fun j hj => by have := (a7 j hj).2.2.2.1; rwa [show 8 * 0 + j = j by omega] at this
  have hg2 : ∀ j, j < ns → mS j = sn j := fun j hj => by have := (a7 j hj).2.2.2.2; rwa [show 8 * 0 + j = j by omega] at this
  obtain ⟨r, sg', sm', kn', c', l', o', s', d', e', f', x1, x2, hk2⟩ := saves_eq hS p hkn cc l2 lo ls dd dl dO
  exact ⟨r, sg', sm', kn', c', l', o', s', d', e', f', x1, x2, ⟨n, bb, k, vs, W, ns, sl, sn, nw, wl, rfl, rfl, hT, rfl, rfl, rfl, rfl, hC, hM, hK, hI1, hI2, htr, hme, hk2⟩⟩
theorem clear_R {me : Int32} {tr : Int64} {sz : Int32} {tB : AR} {ch wo : Int32} {sv sf : AR} {s0 w0 g0 : Int32} {L0 S0 W0 : AR} {s1 w1 g1 : Int32} {L1 S1 W1 : AR} {s2 w2 g2 : Int32} {L2 S2 W2 : AR} {ll : AR} {sg sm kn : Int32} {mtr : Int64} {mt mch mwo : Int32} {mx mv ms mL mS mws mw mk : AR} (h : RR me tr sz tB ch wo sv sf s0 w0 g0 L0 S0 W0 s1 w1 g1 L1 S1 W1 s2 w2 g2 L2 S2 W2 ll sg sm kn mtr mt mch mwo mx mv ms mL mS mws mw mk) : ∃ r sz' mt', P_X10_clear sz = some (r, sz') ∧ P_X11_clear mt = some (r, mt') ∧ RR me tr sz' tB ch wo sv sf s0 w0 g0 L0 S0 W0 s1 w1 g1 L1 S1 W1 s2 w2 g2 L2 S2 W2 ll sg sm kn mtr mt' mch mwo mx mv ms mL mS mws mw mk := by
  have hR := h
  obtain ⟨n, bb, k, vs, W, ns, sl, sn, nw, wl, rfl, rfl, hT, rfl, rfl, rfl, rfl, hC, hM, hK, hI1, hI2, htr, hme, hkn⟩ := h
  obtain ⟨hw1, hw2⟩ := KE_WD hK
  have hK' := hK
  obtain ⟨rfl, rfl, a3, a4, a5, a6, a7, a8⟩ := hK'
  have h9 := hC.1.le
  have hS : SPW k vs W nw wl sv sf W0 mv mws mw := ⟨hC, hM, a6, hw1, hw2⟩
  have hf : ∀ j, j < ns → L0 j = nI (sl j) := fun j hj => (a7 j hj).1
  have hg : ∀ j, j < ns → mL j = nI (sl j) := fun j hj => by have := (a7 j hj).2.2.2.1; rwa [show 8 * 0 + j = j by omega] at this
  have hg2 : ∀ j, j < ns → mS j = sn j := fun j hj => by have := (a7 j hj).2.2.2.2; rwa [show 8 * 0 + j = j by omega] at this
  exact ⟨_, _, _, rfl, rfl, ⟨0, bb, k, vs, W, ns, sl, sn, nw, wl, rfl, rfl, TX_0 _ _ _, rfl, rfl, rfl, rfl, hC, hM, hK, hI1, hI2, htr, hme, hkn⟩⟩
theorem unsay_R {me : Int32} {tr : Int64} {sz : Int32} {tB : AR} {ch wo : Int32} {sv sf : AR} {s0 w0 g0 : Int32} {L0 S0 W0 : AR} {s1 w1 g1 : Int32} {L1 S1 W1 : AR} {s2 w2 g2 : Int32} {L2 S2 W2 : AR} {ll : AR} {sg sm kn : Int32} {mtr : Int64} {mt mch mwo : Int32} {mx mv ms mL mS mws mw mk : AR} (h : RR me tr sz tB ch wo sv sf s0 w0 g0 L0 S0 W0 s1 w1 g1 L1 S1 W1 s2 w2 g2 L2 S2 W2 ll sg sm kn mtr mt mch mwo mx mv ms mL mS mws mw mk) : ∃ r s0' ms', P_X10_unsay s0 = some (r, s0') ∧ P_X11_unsay ms = some (r, ms') ∧ RR me tr sz tB ch wo sv sf s0' w0 g0 L0 S0 W0 s1 w1 g1 L1 S1 W1 s2 w2 g2 L2 S2 W2 ll sg sm kn mtr mt mch mwo mx mv ms' mL mS mws mw mk := by
  have hR := h
  obtain ⟨n, bb, k, vs, W, ns, sl, sn, nw, wl, rfl, rfl, hT, rfl, rfl, rfl, rfl, hC, hM, hK, hI1, hI2, htr, hme, hkn⟩ := h
  obtain ⟨hw1, hw2⟩ := KE_WD hK
  have hK' := hK
  obtain ⟨rfl, rfl, a3, a4, a5, a6, a7, a8⟩ := hK'
  have h9 := hC.1.le
  have hS : SPW k vs W nw wl sv sf W0 mv mws mw := ⟨hC, hM, a6, hw1, hw2⟩
  have hf : ∀ j, j < ns → L0 j = nI (sl j) := fun j hj => (a7 j hj).1
  have hg : ∀ j, j < ns → mL j = nI (sl j) := fun j hj => by have := (a7 j hj).2.2.2.1; rwa [show 8 * 0 + j = j by omega] at this
  have hg2 : ∀ j, j < ns → mS j = sn j := fun j hj => by have := (a7 j hj).2.2.2.2; rwa [show 8 * 0 + j = j by omega] at this
  unfold P_X10_unsay P_X11_unsay P_X0_sayings P_X0_dropSaying
  rw [Option.bind_some, ck0 _ (by decide) (by decide), cl0, a5]
  by_cases z : ns = 0
  · rw [if_pos (show nI ns = 0 by rw [z]; rfl), if_pos (show nI ns = 0 by rw [z]; rfl)]
    exact ⟨_, _, _, rfl, rfl, hR⟩
  · rw [if_neg (nI_ne0 (by omega) (by omega)), if_neg (nI_ne0 (by omega) (by omega)), ck0 _ (by decide) (by decide), ck0 _ (by decide) (by decide), ck0 _ (by decide) (by decide), pk_us, Option.bind_some, Option.bind_some]
    have e1 : nI ns - 1 = nI (ns - 1) := pk_sub (b := 1) (by omega)
    have e2 : nI ns + (-1) = nI (ns - 1) := by
      obtain ⟨q, rfl⟩ : ∃ q, ns = q + 1 := ⟨ns - 1, by omega⟩
      exact pk_m1 q
    rw [e1]
    first
      | refine ⟨_, _, _, rfl, rfl, ?_⟩
      | (rw [e2]; refine ⟨_, _, _, rfl, rfl, ?_⟩)
    exact ⟨n, bb, k, vs, W, ns - 1, sl, sn, nw, wl, rfl, rfl, hT, rfl, rfl, rfl, rfl, hC, hM, ⟨rfl, rfl, by omega, a4, pk_us, a6, fun i hi => a7 i (by omega), a8⟩, IM_congr hI1 (pk_un (by decide)) rfl (fun _ _ => rfl) (fun _ _ => rfl) (fun _ _ => rfl), IM_congr hI2 (pk_un (by decide)) rfl (fun _ _ => rfl) (fun _ _ => rfl) (fun _ _ => rfl), htr, hme, hkn⟩
theorem unword_R {me : Int32} {tr : Int64} {sz : Int32} {tB : AR} {ch wo : Int32} {sv sf : AR} {s0 w0 g0 : Int32} {L0 S0 W0 : AR} {s1 w1 g1 : Int32} {L1 S1 W1 : AR} {s2 w2 g2 : Int32} {L2 S2 W2 : AR} {ll : AR} {sg sm kn : Int32} {mtr : Int64} {mt mch mwo : Int32} {mx mv ms mL mS mws mw mk : AR} (h : RR me tr sz tB ch wo sv sf s0 w0 g0 L0 S0 W0 s1 w1 g1 L1 S1 W1 s2 w2 g2 L2 S2 W2 ll sg sm kn mtr mt mch mwo mx mv ms mL mS mws mw mk) : ∃ r me' w0' kn' mws', P_X10_unword me w0 kn = some (r, me', w0', kn') ∧ P_X11_unword mws = some (r, mws') ∧ RR me' tr sz tB ch wo sv sf s0 w0' g0 L0 S0 W0 s1 w1 g1 L1 S1 W1 s2 w2 g2 L2 S2 W2 ll sg sm kn' mtr mt mch mwo mx mv ms mL mS mws' mw mk := by
  have hR := h
  obtain ⟨n, bb, k, vs, W, ns, sl, sn, nw, wl, rfl, rfl, hT, rfl, rfl, rfl, rfl, hC, hM, hK, hI1, hI2, htr, hme, hkn⟩ := h
  obtain ⟨hw1, hw2⟩ := KE_WD hK
  have hK' := hK
  obtain ⟨rfl, rfl, a3, a4, a5, a6, a7, a8⟩ := hK'
  have h9 := hC.1.le
  have hS : SPW k vs W nw wl sv sf W0 mv mws mw := ⟨hC, hM, a6, hw1, hw2⟩
  have hf : ∀ j, j < ns → L0 j = nI (sl j) := fun j hj => (a7 j hj).1
  have hg : ∀ j, j < ns → mL j = nI (sl j) := fun j hj => by have := (a7 j hj).2.2.2.1; rwa [show 8 * 0 + j = j by omega] at this
  have hg2 : ∀ j, j < ns → mS j = sn j := fun j hj => by have := (a7 j hj).2.2.2.2; rwa [show 8 * 0 + j = j by omega] at this
  have x2 : P_X11_unword mws = some (nI nw, upd mws 0 0) := by
    unfold P_X11_unword
    rw [← a6]
    rfl
  refine ⟨nI nw, 0, 0, 0, _, rfl, x2, ?_⟩
  exact ⟨n, bb, k, vs, W, ns, sl, sn, 0, wl, rfl, rfl, hT, rfl, rfl, rfl, rfl, hC, hM, ⟨rfl, rfl, a3, by decide, a5, pk_us, a7, fun i hi => absurd hi (Nat.not_lt_zero i)⟩, IM_congr hI1 rfl (pk_un (by decide)) (fun _ _ => rfl) (fun _ _ => rfl) (fun _ _ => rfl), IM_congr hI2 rfl (pk_un (by decide)) (fun _ _ => rfl) (fun _ _ => rfl) (fun _ _ => rfl), htr, Or.inl rfl, Or.inl rfl⟩
theorem word_R {me : Int32} {tr : Int64} {sz : Int32} {tB : AR} {ch wo : Int32} {sv sf : AR} {s0 w0 g0 : Int32} {L0 S0 W0 : AR} {s1 w1 g1 : Int32} {L1 S1 W1 : AR} {s2 w2 g2 : Int32} {L2 S2 W2 : AR} {ll : AR} {sg sm kn : Int32} {mtr : Int64} {mt mch mwo : Int32} {mx mv ms mL mS mws mw mk : AR} (h : RR me tr sz tB ch wo sv sf s0 w0 g0 L0 S0 W0 s1 w1 g1 L1 S1 W1 s2 w2 g2 L2 S2 W2 ll sg sm kn mtr mt mch mwo mx mv ms mL mS mws mw mk) (p : Int32) : ∃ r me' w0' W0' kn' mws' mw', P_X10_word p me wo w0 W0 kn = some (r, me', w0', W0', kn') ∧ P_X11_word p mwo mws mw = some (r, mws', mw') ∧ RR me' tr sz tB ch wo sv sf s0 w0' g0 L0 S0 W0' s1 w1 g1 L1 S1 W1 s2 w2 g2 L2 S2 W2 ll sg sm kn' mtr mt mch mwo mx mv ms mL mS mws' mw' mk := by
  have hR := h
  obtain ⟨n, bb, k, vs, W, ns, sl, sn, nw, wl, rfl, rfl, hT, rfl, rfl, rfl, rfl, hC, hM, hK, hI1, hI2, htr, hme, hkn⟩ := h
  obtain ⟨hw1, hw2⟩ := KE_WD hK
  have hK' := hK
  obtain ⟨rfl, rfl, a3, a4, a5, a6, a7, a8⟩ := hK'
  have h9 := hC.1.le
  have hS : SPW k vs W nw wl sv sf W0 mv mws mw := ⟨hC, hM, a6, hw1, hw2⟩
  have hf : ∀ j, j < ns → L0 j = nI (sl j) := fun j hj => (a7 j hj).1
  have hg : ∀ j, j < ns → mL j = nI (sl j) := fun j hj => by have := (a7 j hj).2.2.2.1; rwa [show 8 * 0 + j = j by omega] at this
  have hg2 : ∀ j, j < ns → mS j = sn j := fun j hj => by have := (a7 j hj).2.2.2.2; rwa [show 8 * 0 + j = j by omega] at this
  unfold P_X10_word P_X11_word P_X0_words P_X0_addWord
  rcases set_cases h9 p with ⟨s, hs, rfl⟩ | hp
  · rw [isSet_in h9 hs, isSet_in_m h9 hs, Option.bind_some, Option.bind_some, Option.bind_some, if_neg one_ne, if_neg one_ne, ck0 _ (by decide) (by decide), cl0, a6]
    by_cases z : nw = 3
    · rw [if_neg (show ¬ nI nw < 3 by rw [z]; decide), if_pos (show nI nw = 3 by rw [z]; rfl)]
      exact ⟨_, _, _, _, _, _, _, rfl, rfl, hR⟩
    · rw [if_pos (show nI nw < 3 from nI_lt (b := 3) (by omega) (by decide)), if_neg (show ¬ nI nw = 3 from fun q => z ((nI_eq (b := 3) (by omega) (by decide)).mp q)), put_in _ _ (show nw < 3 by omega) (by decide), Option.bind_some, Option.bind_some, nI_1]
      rw [ck0 _ (by decide) (by decide), ck_in _ (show nw < 9 by omega) (by decide), ck0 _ (by decide) (by decide), ck0 _ (by decide) (by decide), ck0 _ (by decide) (by decide), nI_clamp (show nw < 2 ^ 31 by omega), pk_us]
      refine ⟨_, _, _, _, _, _, _, rfl, rfl, ?_⟩
      refine ⟨n, bb, k, vs, W, ns, sl, sn, nw + 1, un wl nw s, rfl, rfl, hT, rfl, rfl, rfl, rfl, hC, hM, ⟨rfl, rfl, a3, by omega, a5, pk_us, a7, fun i hi => ?_⟩, IM_congr hI1 rfl (pk_un (by decide)) (fun _ _ => rfl) (fun _ _ => rfl) (fun i hi => pk_un (by omega)), IM_congr hI2 rfl (pk_un (by decide)) (fun _ _ => rfl) (fun _ _ => rfl) (fun i hi => pk_un (by omega)), htr, Or.inl rfl, Or.inl rfl⟩
      show upd W0 nw (nI s) i = nI (un wl nw s i) ∧ un wl nw s i < 2 ^ W ∧ upd mw nw (nI s) (3 * 0 + i) = nI (un wl nw s i)
      rw [show 3 * 0 + i = i by omega]
      by_cases e : i = nw
      · rw [e, pk_us, pk_us, un_s]; exact ⟨rfl, hs, rfl⟩
      · have := a8 i (by omega)
        rw [show 3 * 0 + i = i by omega] at this
        rw [pk_un e, pk_un e, un_n _ _ e]; exact this
  · rw [isSet_out h9 hp, isSet_out_m h9 hp, Option.bind_some, Option.bind_some, Option.bind_some, if_pos rfl, if_pos rfl]
    exact ⟨_, _, _, _, _, _, _, rfl, rfl, hR⟩
