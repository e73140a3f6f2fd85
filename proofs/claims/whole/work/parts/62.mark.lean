/-! mark and trace -/
theorem ta (x a b c : Int64) (h : a + b = c) : x + a + b = x + c := by rw [Int64.add_assoc, h]
theorem signsOf_k {j : Nat} (f : AR) (h : j < 8) : P_X0_signsOf (nI j) f = some (f j) := by
  unfold P_X0_signsOf
  rw [at_in _ h (by decide), Option.bind_some]
theorem plain_eq {j : Nat} (f : AR) (t : Int64) (h : j < 8) : P_X10_plainMark (nI j) t f = some (f j, t + 1) := by
  unfold P_X10_plainMark
  rw [signsOf_k f h, Option.bind_some]
theorem offer_eq {j : Nat} {x : Nat} (l f : AR) (t : Int64) (h : j < 8) (hl : l j = nI x) (hx : x < 512) : P_X10_offerMark (nI j) t l f = some (f j + nI (pc x 9), t + 11) := by
  unfold P_X10_offerMark
  rw [plain_eq f _ h, Option.bind_some, leftBy_k l h, Option.bind_some, hl, bitCount_eq x hx, Option.bind_some, ta t 10 1 11 (by decide)]
theorem clauseM_eq {j : Nat} (f : AR) (t : Int64) (h : j < 8) : P_X10_clauseMark (nI j) t f = some (f j * 2, t + 101) := by
  unfold P_X10_clauseMark
  rw [plain_eq f _ h, Option.bind_some, ta t 100 1 101 (by decide)]
theorem mark_R {me : Int32} {tr : Int64} {sz : Int32} {tB : AR} {ch wo : Int32} {sv sf : AR} {s0 w0 g0 : Int32} {L0 S0 W0 : AR} {s1 w1 g1 : Int32} {L1 S1 W1 : AR} {s2 w2 g2 : Int32} {L2 S2 W2 : AR} {ll : AR} {sg sm kn : Int32} {mtr : Int64} {mt mch mwo : Int32} {mx mv ms mL mS mws mw mk : AR} (h : RR me tr sz tB ch wo sv sf s0 w0 g0 L0 S0 W0 s1 w1 g1 L1 S1 W1 s2 w2 g2 L2 S2 W2 ll sg sm kn mtr mt mch mwo mx mv ms mL mS mws mw mk) (p q : Int32) (cc : Int32) (lo ls : AR) (dd : Int32) (dl dO : AR) : ∃ r me' tr' c' ll' o' s' mtr' d' e' f', P_X10_mark p q me tr ch wo sv sf s0 w0 L0 S0 W0 cc ll lo ls = some (r, me', tr', c', ll', o', s') ∧ P_X11_mark p q mtr mch mwo dd mv ms mL mS mws mw dl dO = some (r, mtr', d', e', f') ∧ RR me' tr' sz tB ch wo sv sf s0 w0 g0 L0 S0 W0 s1 w1 g1 L1 S1 W1 s2 w2 g2 L2 S2 W2 ll' sg sm kn mtr' mt mch mwo mx mv ms mL mS mws mw mk := by
  have hR := h
  obtain ⟨n, bb, k, vs, W, ns, sl, sn, nw, wl, rfl, rfl, hT, rfl, rfl, rfl, rfl, hC, hM, hK, hI1, hI2, rfl, hme, hkn⟩ := h
  obtain ⟨hw1, hw2⟩ := KE_WD hK
  have hK' := hK
  obtain ⟨rfl, rfl, a3, a4, a5, a6, a7, a8⟩ := hK'
  have h9 := hC.1.le
  have hS : SPW k vs W nw wl sv sf W0 mv mws mw := ⟨hC, hM, a6, hw1, hw2⟩
  have hf : ∀ j, j < ns → L0 j = nI (sl j) := fun j hj => (a7 j hj).1
  have hg : ∀ j, j < ns → mL j = nI (sl j) := fun j hj => by have := (a7 j hj).2.2.2.1; rwa [show 8 * 0 + j = j by omega] at this
  have hg2 : ∀ j, j < ns → mS j = sn j := fun j hj => by have := (a7 j hj).2.2.2.2; rwa [show 8 * 0 + j = j by omega] at this
  unfold P_X10_mark P_X11_mark
  have ⟨p1, p2⟩ := p9 h9
  rcases isSaying_m (p := q) a3 a5 with ⟨j, hj, rfl, e1, e2⟩ | ⟨e1, e2⟩
  · rw [e1, Option.bind_some, if_neg one_ne]
    have hj8 : j < 8 := by omega
    have hx := (a7 j hj).2.1
    have hs := (a7 j hj).2.2.1
    have keep : ∀ t' : Int64, RR me t' (nI n) tB (nI k) (nI W) sv sf (nI ns) (nI nw) g0 L0 S0 W0 s1 w1 g1 L1 S1 W1 s2 w2 g2 L2 S2 W2 ll sg sm kn t' (nI n) (nI k) (nI W) mx mv ms mL mS mws mw mk := fun t' => ⟨n, bb, k, vs, W, ns, sl, sn, nw, wl, rfl, rfl, hT, rfl, rfl, rfl, rfl, hC, hM, hK, hI1, hI2, rfl, hme, hkn⟩
    rcases int_cases (show 5 < 2 ^ 31 by decide) p with ⟨c, hc, rfl⟩ | hp
    · have b2 : P_X11_in (nI c) 0 5 = some 1 := in0 (c := 5) hc (by decide)
      rw [b2, Option.bind_some, if_neg one_ne, e2, Option.bind_some, if_neg one_ne, ck_in _ (show j < 24 by omega) (by decide), ck_in _ (show j < 24 by omega) (by decide), ck_in _ (show j < 24 by omega) (by decide), ck_in _ (show j < 24 by omega) (by decide), ck_in _ (show j < 24 by omega) (by decide), ck_in _ (show j < 24 by omega) (by decide), ck_in _ (show j < 24 by omega) (by decide), nI_clamp (show j < 2 ^ 31 by omega), hg j hj, hg2 j hj]
      rcases (show c = 0 ∨ c = 1 ∨ c = 2 ∨ c = 3 ∨ c = 4 ∨ c = 5 by omega) with rfl | rfl | rfl | rfl | rfl | rfl
      · rw [if_pos (show nI 0 = 0 from rfl), if_pos (show nI 0 = 0 from rfl), plain_eq S0 _ hj8, Option.bind_some, hs]
        exact ⟨_, _, _, _, _, _, _, _, _, _, _, rfl, rfl, keep _⟩
      · rw [if_neg (show ¬ nI 1 = 0 by decide), if_neg (show ¬ nI 1 = 0 by decide), if_pos (show nI 1 = 1 from rfl), if_pos (show nI 1 = 1 from rfl), offer_eq L0 S0 _ hj8 (hf j hj) (by omega), Option.bind_some, bitsIn_eq (by omega), Option.bind_some, hs]
        exact ⟨_, _, _, _, _, _, _, _, _, _, _, rfl, rfl, keep _⟩
      · rw [if_neg (show ¬ nI 2 = 0 by decide), if_neg (show ¬ nI 2 = 0 by decide), if_neg (show ¬ nI 2 = 1 by decide), if_neg (show ¬ nI 2 = 1 by decide), if_pos (show nI 2 = 2 from rfl), if_pos (show nI 2 = 2 from rfl), clauseM_eq S0 _ hj8, Option.bind_some, hs, Int32.mul_comm 2 (sn j)]
        exact ⟨_, _, _, _, _, _, _, _, _, _, _, rfl, rfl, keep _⟩
      · obtain ⟨r, r1, r2⟩ := lost_both h9 a3 a5 hf hg hj
        have vw : P_X10_vowMark (nI j) mtr (nI W) (nI ns) L0 S0 = some (sn j * 2 + r, mtr + 1101) := by
          unfold P_X10_vowMark
          rw [clauseM_eq S0 _ hj8, Option.bind_some, r1, Option.bind_some, hs, ta mtr 1000 101 1101 (by decide)]
        rw [if_neg (show ¬ nI 3 = 0 by decide), if_neg (show ¬ nI 3 = 0 by decide), if_neg (show ¬ nI 3 = 1 by decide), if_neg (show ¬ nI 3 = 1 by decide), if_neg (show ¬ nI 3 = 2 by decide), if_neg (show ¬ nI 3 = 2 by decide), if_pos (show nI 3 = 3 from rfl), if_pos (show nI 3 = 3 from rfl), vw, Option.bind_some, r2, Option.bind_some, Int32.mul_comm 2 (sn j)]
        exact ⟨_, _, _, _, _, _, _, _, _, _, _, rfl, rfl, keep _⟩
      · have qs : P_X10_questionMark (nI j) mtr L0 S0 = some (sn j + nI (pc (sl j) 9) - nI j, mtr + 10011) := by
          unfold P_X10_questionMark
          rw [offer_eq L0 S0 _ hj8 (hf j hj) (by omega), Option.bind_some, hs, ta mtr 10000 11 10011 (by decide)]
        rw [if_neg (show ¬ nI 4 = 0 by decide), if_neg (show ¬ nI 4 = 0 by decide), if_neg (show ¬ nI 4 = 1 by decide), if_neg (show ¬ nI 4 = 1 by decide), if_neg (show ¬ nI 4 = 2 by decide), if_neg (show ¬ nI 4 = 2 by decide), if_neg (show ¬ nI 4 = 3 by decide), if_neg (show ¬ nI 4 = 3 by decide), if_pos (show nI 4 = 4 from rfl), if_pos (show nI 4 = 4 from rfl), qs, Option.bind_some, bitsIn_eq (show sl j < 512 by omega), Option.bind_some]
        exact ⟨_, _, _, _, _, _, _, _, _, _, _, rfl, rfl, keep _⟩
      · obtain ⟨m', c', l', o', s', x1, x2, x3⟩ := lengthsNow_eq hC hw1 hme cc lo ls
        obtain ⟨d', e', f', y1, y2⟩ := findNow_eq hM a6 hw2 dd dl dO
        have t27 : TF (GS k vs W nw wl none) (sl j) ≤ 27 := TF_le _ _
        have sh : P_X10_shrugMark (nI j) me mtr (nI k) (nI W) sv sf (nI nw) L0 S0 W0 cc ll lo ls = some (sn j + nI (TF (GS k vs W nw wl none) (sl j)), m', mtr + 100001, c', l', o', s') := by
          unfold P_X10_shrugMark
          rw [plain_eq S0 _ hj8, Option.bind_some, x1, Option.bind_some, leftBy_k L0 hj8, Option.bind_some, hf j hj]
          show (P_X1_of (nI (sl j)) l').bind _ = _
          rw [of_eq h9 x3 hx, Option.bind_some, hs, ta mtr 100000 1 100001 (by decide)]
          have e : (if (0 : Int32) < lnI (TF (GS k vs W nw wl none)) (sl j) then lnI (TF (GS k vs W nw wl none)) (sl j) else 0) = nI (TF (GS k vs W nw wl none) (sl j)) := by
            rw [lnI]
            by_cases z : TF (GS k vs W nw wl none) (sl j) = 0
            · rw [if_pos z, z, if_neg (by decide)]; rfl
            · rw [if_neg z, if_pos (show (0 : Int32) < nI (TF (GS k vs W nw wl none) (sl j)) from nI_lt (a := 0) (by omega) (by omega))]
          rw [e]
        rw [if_neg (show ¬ nI 5 = 0 by decide), if_neg (show ¬ nI 5 = 0 by decide), if_neg (show ¬ nI 5 = 1 by decide), if_neg (show ¬ nI 5 = 1 by decide), if_neg (show ¬ nI 5 = 2 by decide), if_neg (show ¬ nI 5 = 2 by decide), if_neg (show ¬ nI 5 = 3 by decide), if_neg (show ¬ nI 5 = 3 by decide), if_neg (show ¬ nI 5 = 4 by decide), if_neg (show ¬ nI 5 = 4 by decide), if_pos (show nI 5 = 5 from rfl), sh, Option.bind_some, y1, Option.bind_some]
        refine ⟨sn j + nI (TF (GS k vs W nw wl none) (sl j)), m', mtr + 100001, c', l', o', s', mtr + 100001, d', e', f', rfl, ?_, ⟨n, bb, k, vs, W, ns, sl, sn, nw, wl, rfl, rfl, hT, rfl, rfl, rfl, rfl, hC, hM, hK, hI1, hI2, rfl, Or.inr x3, hkn⟩⟩
        show ck (nI j) 24 (ck (nI j) 24 (ck (nI (sl j)) 512 (some (sn j + e' (nI (sl j)).toNatClampNeg, mtr + 100001, d', e', f')))) = _
        rw [ck_in _ (show j < 24 by omega) (by decide), ck_in _ (show j < 24 by omega) (by decide), ck_in _ (show sl j < 512 by omega) (by decide), nI_clamp (show sl j < 2 ^ 31 by omega), (y2 _ hx).1]
    · have b2 : P_X11_in p 0 5 = some 0 := in_out hp
      have ne : ∀ c : Nat, c ≤ 5 → ¬ p = nI c := by
        rintro c hc rfl
        rcases hp with h | h
        · exact nI_pos (by omega) h
        · exact nI_nlt hc (by decide) h
      rw [b2, Option.bind_some, if_pos rfl, if_neg (show ¬ p = 0 from ne 0 (by decide)), if_neg (show ¬ p = 1 from ne 1 (by decide)), if_neg (show ¬ p = 2 from ne 2 (by decide)), if_neg (show ¬ p = 3 from ne 3 (by decide)), if_neg (show ¬ p = 4 from ne 4 (by decide)), if_neg (show ¬ p = 5 from ne 5 (by decide))]
      exact ⟨_, _, _, _, _, _, _, _, _, _, _, rfl, rfl, hR⟩
  · rw [e1, e2, Option.bind_some, Option.bind_some, if_pos rfl, if_pos rfl]
    by_cases b : P_X11_in p 0 5 = some 0
    · rw [b, Option.bind_some, if_pos rfl]
      exact ⟨_, _, _, _, _, _, _, _, _, _, _, rfl, rfl, hR⟩
    · have : P_X11_in p 0 5 = some 1 := by
        rcases int_cases (show 5 < 2 ^ 31 by decide) p with ⟨c, hc, rfl⟩ | hp
        · exact in0 (c := 5) hc (by decide)
        · exact absurd (in_out hp) b
      rw [this, Option.bind_some, if_neg one_ne]
      exact ⟨_, _, _, _, _, _, _, _, _, _, _, rfl, rfl, hR⟩
theorem trace_R {me : Int32} {tr : Int64} {sz : Int32} {tB : AR} {ch wo : Int32} {sv sf : AR} {s0 w0 g0 : Int32} {L0 S0 W0 : AR} {s1 w1 g1 : Int32} {L1 S1 W1 : AR} {s2 w2 g2 : Int32} {L2 S2 W2 : AR} {ll : AR} {sg sm kn : Int32} {mtr : Int64} {mt mch mwo : Int32} {mx mv ms mL mS mws mw mk : AR} (h : RR me tr sz tB ch wo sv sf s0 w0 g0 L0 S0 W0 s1 w1 g1 L1 S1 W1 s2 w2 g2 L2 S2 W2 ll sg sm kn mtr mt mch mwo mx mv ms mL mS mws mw mk) : ∃ r, P_X10_trace tr = some r ∧ P_X11_trace mtr = some r := by
  obtain ⟨n, bb, k, vs, W, ns, sl, sn, nw, wl, -, -, -, -, -, -, -, -, -, -, -, -, htr, -⟩ := h
  rw [htr]
  exact ⟨_, rfl, rfl⟩
