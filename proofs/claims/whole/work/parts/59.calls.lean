/-! the other calls -/
theorem isSaying_c {ns : Nat} {p : Int32} (hn : ns ≤ 8) : (∃ j, j < ns ∧ p = nI j ∧ P_X0_isSaying p (nI ns) = some 1) ∨ P_X0_isSaying p (nI ns) = some 0 := by
  unfold P_X0_isSaying
  by_cases h0 : p < 0
  · exact Or.inr (if_pos h0)
  · obtain ⟨j, hj, rfl⟩ := nI_of h0
    rcases Nat.lt_or_ge j ns with g | g
    · exact Or.inl ⟨j, g, rfl, by rw [if_neg h0, if_neg (nI_ge g (by omega))]⟩
    · exact Or.inr (by rw [if_neg h0, if_pos (nI_le g hj)])
theorem isSaying_m {ns : Nat} {ms : AR} {p : Int32} (hn : ns ≤ 8) (h : ms 0 = nI ns) : (∃ j, j < ns ∧ p = nI j ∧ P_X0_isSaying p (nI ns) = some 1 ∧ P_X11_isSaying p ms = some 1) ∨ (P_X0_isSaying p (nI ns) = some 0 ∧ P_X11_isSaying p ms = some 0) := by
  unfold P_X11_isSaying
  rw [ck0 _ (by decide) (by decide), cl0, h]
  by_cases h0 : p < 0
  · refine Or.inr ⟨?_, ?_⟩
    · unfold P_X0_isSaying; exact if_pos h0
    · rw [in_out (Or.inl h0)]; rfl
  · obtain ⟨j, hj, rfl⟩ := nI_of h0
    rcases Nat.lt_or_ge j ns with g | g
    · refine Or.inl ⟨j, g, rfl, ?_, ?_⟩
      · unfold P_X0_isSaying; rw [if_neg h0, if_neg (nI_ge g (by omega))]
      · have e : nI ns - 1 = nI (ns - 1) := pk_sub (b := 1) (by omega)
        have e2 : P_X11_in (nI j) 0 (nI (ns - 1)) = some 1 := in0 (by omega) (by omega)
        rw [e, e2]; rfl
    · refine Or.inr ⟨?_, ?_⟩
      · unfold P_X0_isSaying; rw [if_neg h0, if_pos (nI_le g hj)]
      · have e2 : P_X11_in (nI j) 0 (nI ns - 1) = some 0 := by
          refine in_out (Or.inr ?_)
          by_cases z : ns = 0
          · rw [z, Int32.lt_iff_toInt_lt, nI_toInt hj]
            have : (nI 0 - 1 : Int32).toInt = -1 := by decide
            omega
          · have e : nI ns - 1 = nI (ns - 1) := pk_sub (b := 1) (by omega)
            rw [e]
            exact nI_lt (by omega) hj
        rw [e2]; rfl
theorem value_R {me : Int32} {tr : Int64} {sz : Int32} {tB : AR} {ch wo : Int32} {sv sf : AR} {s0 w0 g0 : Int32} {L0 S0 W0 : AR} {s1 w1 g1 : Int32} {L1 S1 W1 : AR} {s2 w2 g2 : Int32} {L2 S2 W2 : AR} {ll : AR} {sg sm kn : Int32} {mtr : Int64} {mt mch mwo : Int32} {mx mv ms mL mS mws mw mk : AR} (h : RR me tr sz tB ch wo sv sf s0 w0 g0 L0 S0 W0 s1 w1 g1 L1 S1 W1 s2 w2 g2 L2 S2 W2 ll sg sm kn mtr mt mch mwo mx mv ms mL mS mws mw mk) (p q : Int32) : ∃ r, P_X10_value p q ch wo sv sf = some r ∧ P_X11_value p q mch mwo mv = some r := by
  have hR := h
  obtain ⟨n, bb, k, vs, W, ns, sl, sn, nw, wl, rfl, rfl, hT, rfl, rfl, rfl, rfl, hC, hM, hK, hI1, hI2, htr, hme, hkn⟩ := h
  obtain ⟨hw1, hw2⟩ := KE_WD hK
  have hK' := hK
  obtain ⟨rfl, rfl, a3, a4, a5, a6, a7, a8⟩ := hK'
  have h9 := hC.1.le
  have hS : SPW k vs W nw wl sv sf W0 mv mws mw := ⟨hC, hM, a6, hw1, hw2⟩
  have hf : ∀ j, j < ns → L0 j = nI (sl j) := fun j hj => (a7 j hj).1
  have hg : ∀ j, j < ns → mL j = nI (sl j) := fun j hj => by have := (a7 j hj).2.2.2.1; rwa [show 8 * 0 + j = j by omega] at this
  have hg2 : ∀ j, j < ns → mS j = sn j := fun j hj => by have := (a7 j hj).2.2.2.2; rwa [show 8 * 0 + j = j by omega] at this
  unfold P_X10_value P_X11_value
  have h3 := hC.1.k3
  rcases world_cases hC.1.W1 h9 p with ⟨w, hw, rfl⟩ | hp
  · rw [isWorld_in h9 hw, inW_in h9 hw, Option.bind_some, Option.bind_some, if_neg one_ne, if_neg one_ne]
    by_cases g : ∃ c, c < k ∧ q = nI c
    · obtain ⟨c, hc, rfl⟩ := g
      have e : nI k - 1 = nI (k - 1) := pk_sub (b := 1) (by omega)
      have e2 : P_X11_in (nI c) 0 (nI (k - 1)) = some 1 := in0 (by omega) (by omega)
      rw [isChoice_in hc (by omega), e, e2, Option.bind_some, Option.bind_some, if_neg one_ne, if_neg one_ne, valueIn_eq hC hc hw, valueOf_eq hM (by omega) (by omega)]
      exact ⟨_, rfl, rfl⟩
    · have bad : (q < 0 ∨ nI k ≤ q) ∧ (q < 0 ∨ nI k - 1 < q) := by
        by_cases q0 : q < 0
        · exact ⟨Or.inl q0, Or.inl q0⟩
        · obtain ⟨c, hc, rfl⟩ := nI_of q0
          have kc : k ≤ c := by
            rcases Nat.lt_or_ge c k with y | y
            · exact absurd ⟨c, y, rfl⟩ g
            · exact y
          refine ⟨Or.inr (nI_le kc hc), Or.inr ?_⟩
          by_cases z : k = 0
          · rw [z, Int32.lt_iff_toInt_lt, nI_toInt hc]
            have : (nI 0 - 1 : Int32).toInt = -1 := by decide
            omega
          · have e : nI k - 1 = nI (k - 1) := pk_sub (b := 1) (by omega)
            rw [e]
            exact nI_lt (by omega) hc
      rw [isChoice_out bad.1, in_out bad.2, Option.bind_some, Option.bind_some, if_pos rfl, if_pos rfl]
      exact ⟨_, rfl, rfl⟩
  · rw [isWorld_out hp, inW_out hC.1.W1 h9 hp, Option.bind_some, Option.bind_some, if_pos rfl, if_pos rfl]
    exact ⟨_, rfl, rfl⟩
theorem saying_R {me : Int32} {tr : Int64} {sz : Int32} {tB : AR} {ch wo : Int32} {sv sf : AR} {s0 w0 g0 : Int32} {L0 S0 W0 : AR} {s1 w1 g1 : Int32} {L1 S1 W1 : AR} {s2 w2 g2 : Int32} {L2 S2 W2 : AR} {ll : AR} {sg sm kn : Int32} {mtr : Int64} {mt mch mwo : Int32} {mx mv ms mL mS mws mw mk : AR} (h : RR me tr sz tB ch wo sv sf s0 w0 g0 L0 S0 W0 s1 w1 g1 L1 S1 W1 s2 w2 g2 L2 S2 W2 ll sg sm kn mtr mt mch mwo mx mv ms mL mS mws mw mk) (p q : Int32) : ∃ r, P_X10_saying p q s0 L0 S0 = some r ∧ P_X11_saying p q ms mL mS = some r := by
  have hR := h
  obtain ⟨n, bb, k, vs, W, ns, sl, sn, nw, wl, rfl, rfl, hT, rfl, rfl, rfl, rfl, hC, hM, hK, hI1, hI2, htr, hme, hkn⟩ := h
  obtain ⟨hw1, hw2⟩ := KE_WD hK
  have hK' := hK
  obtain ⟨rfl, rfl, a3, a4, a5, a6, a7, a8⟩ := hK'
  have h9 := hC.1.le
  have hS : SPW k vs W nw wl sv sf W0 mv mws mw := ⟨hC, hM, a6, hw1, hw2⟩
  have hf : ∀ j, j < ns → L0 j = nI (sl j) := fun j hj => (a7 j hj).1
  have hg : ∀ j, j < ns → mL j = nI (sl j) := fun j hj => by have := (a7 j hj).2.2.2.1; rwa [show 8 * 0 + j = j by omega] at this
  have hg2 : ∀ j, j < ns → mS j = sn j := fun j hj => by have := (a7 j hj).2.2.2.2; rwa [show 8 * 0 + j = j by omega] at this
  unfold P_X10_saying P_X11_saying
  rcases isSaying_m (p := p) a3 a5 with ⟨j, hj, rfl, e1, e2⟩ | ⟨e1, e2⟩
  · rw [e1, e2, Option.bind_some, Option.bind_some, if_neg one_ne, if_neg one_ne]
    rcases one_cases q with ⟨c, hc, rfl⟩ | hq
    · rw [bt1 hc, in01 hc, Option.bind_some, if_neg one_ne]
      by_cases c0 : nI c = 0
      · rw [if_pos c0, if_pos c0, leftBy_k _ (show j < 8 by omega), ck_in _ (show j < 24 by omega) (by decide), nI_clamp (show j < 2 ^ 31 by omega), hg j hj, Option.bind_some, hf j hj]
        exact ⟨_, rfl, rfl⟩
      · unfold P_X0_signsOf
        rw [if_neg c0, if_neg c0, at_in _ (show j < 8 by omega) (by decide), ck_in _ (show j < 24 by omega) (by decide), nI_clamp (show j < 2 ^ 31 by omega), hg2 j hj, (a7 j hj).2.2.1]
        exact ⟨_, rfl, rfl⟩
    · rw [bt1_out hq, in_out hq, Option.bind_some, if_pos rfl]
      exact ⟨_, rfl, rfl⟩
  · rw [e1, e2, Option.bind_some, Option.bind_some, if_pos rfl, if_pos rfl]
    exact ⟨_, rfl, rfl⟩
theorem alike_R {me : Int32} {tr : Int64} {sz : Int32} {tB : AR} {ch wo : Int32} {sv sf : AR} {s0 w0 g0 : Int32} {L0 S0 W0 : AR} {s1 w1 g1 : Int32} {L1 S1 W1 : AR} {s2 w2 g2 : Int32} {L2 S2 W2 : AR} {ll : AR} {sg sm kn : Int32} {mtr : Int64} {mt mch mwo : Int32} {mx mv ms mL mS mws mw mk : AR} (h : RR me tr sz tB ch wo sv sf s0 w0 g0 L0 S0 W0 s1 w1 g1 L1 S1 W1 s2 w2 g2 L2 S2 W2 ll sg sm kn mtr mt mch mwo mx mv ms mL mS mws mw mk) (p q : Int32) : ∃ r, P_X10_alike p q s0 L0 = some r ∧ P_X11_alike p q ms mL = some r := by
  have hR := h
  obtain ⟨n, bb, k, vs, W, ns, sl, sn, nw, wl, rfl, rfl, hT, rfl, rfl, rfl, rfl, hC, hM, hK, hI1, hI2, htr, hme, hkn⟩ := h
  obtain ⟨hw1, hw2⟩ := KE_WD hK
  have hK' := hK
  obtain ⟨rfl, rfl, a3, a4, a5, a6, a7, a8⟩ := hK'
  have h9 := hC.1.le
  have hS : SPW k vs W nw wl sv sf W0 mv mws mw := ⟨hC, hM, a6, hw1, hw2⟩
  have hf : ∀ j, j < ns → L0 j = nI (sl j) := fun j hj => (a7 j hj).1
  have hg : ∀ j, j < ns → mL j = nI (sl j) := fun j hj => by have := (a7 j hj).2.2.2.1; rwa [show 8 * 0 + j = j by omega] at this
  have hg2 : ∀ j, j < ns → mS j = sn j := fun j hj => by have := (a7 j hj).2.2.2.2; rwa [show 8 * 0 + j = j by omega] at this
  unfold P_X10_alike P_X11_alike
  rcases isSaying_m (p := p) a3 a5 with ⟨j, hj, rfl, e1, e2⟩ | ⟨e1, e2⟩
  · rw [e1, e2, Option.bind_some, Option.bind_some, if_neg one_ne, if_neg one_ne]
    rcases isSaying_m (p := q) a3 a5 with ⟨i, hi, rfl, e3, e4⟩ | ⟨e3, e4⟩
    · rw [e3, e4, Option.bind_some, Option.bind_some, if_neg one_ne, if_neg one_ne, leftBy_k _ (show j < 8 by omega), leftBy_k _ (show i < 8 by omega), Option.bind_some, Option.bind_some, ck_in _ (show j < 24 by omega) (by decide), ck_in _ (show i < 24 by omega) (by decide), nI_clamp (show j < 2 ^ 31 by omega), nI_clamp (show i < 2 ^ 31 by omega), hf j hj, hf i hi, hg j hj, hg i hi]
      by_cases e : nI (sl j) = nI (sl i)
      · rw [if_pos e]; exact ⟨_, rfl, rfl⟩
      · rw [if_neg e]; exact ⟨_, rfl, rfl⟩
    · rw [e3, e4, Option.bind_some, Option.bind_some, if_pos rfl, if_pos rfl]
      exact ⟨_, rfl, rfl⟩
  · rw [e1, e2, Option.bind_some, Option.bind_some, if_pos rfl, if_pos rfl]
    exact ⟨_, rfl, rfl⟩
theorem terms_R {me : Int32} {tr : Int64} {sz : Int32} {tB : AR} {ch wo : Int32} {sv sf : AR} {s0 w0 g0 : Int32} {L0 S0 W0 : AR} {s1 w1 g1 : Int32} {L1 S1 W1 : AR} {s2 w2 g2 : Int32} {L2 S2 W2 : AR} {ll : AR} {sg sm kn : Int32} {mtr : Int64} {mt mch mwo : Int32} {mx mv ms mL mS mws mw mk : AR} (h : RR me tr sz tB ch wo sv sf s0 w0 g0 L0 S0 W0 s1 w1 g1 L1 S1 W1 s2 w2 g2 L2 S2 W2 ll sg sm kn mtr mt mch mwo mx mv ms mL mS mws mw mk) (p q : Int32) : ∃ r, P_X10_terms p q ch wo sv sf = some r ∧ P_X11_terms p q mch mwo mv = some r := by
  have hR := h
  obtain ⟨n, bb, k, vs, W, ns, sl, sn, nw, wl, rfl, rfl, hT, rfl, rfl, rfl, rfl, hC, hM, hK, hI1, hI2, htr, hme, hkn⟩ := h
  obtain ⟨hw1, hw2⟩ := KE_WD hK
  have hK' := hK
  obtain ⟨rfl, rfl, a3, a4, a5, a6, a7, a8⟩ := hK'
  have h9 := hC.1.le
  have hS : SPW k vs W nw wl sv sf W0 mv mws mw := ⟨hC, hM, a6, hw1, hw2⟩
  have hf : ∀ j, j < ns → L0 j = nI (sl j) := fun j hj => (a7 j hj).1
  have hg : ∀ j, j < ns → mL j = nI (sl j) := fun j hj => by have := (a7 j hj).2.2.2.1; rwa [show 8 * 0 + j = j by omega] at this
  have hg2 : ∀ j, j < ns → mS j = sn j := fun j hj => by have := (a7 j hj).2.2.2.2; rwa [show 8 * 0 + j = j by omega] at this
  exact terms_eq hC hM p q
theorem contract_R {me : Int32} {tr : Int64} {sz : Int32} {tB : AR} {ch wo : Int32} {sv sf : AR} {s0 w0 g0 : Int32} {L0 S0 W0 : AR} {s1 w1 g1 : Int32} {L1 S1 W1 : AR} {s2 w2 g2 : Int32} {L2 S2 W2 : AR} {ll : AR} {sg sm kn : Int32} {mtr : Int64} {mt mch mwo : Int32} {mx mv ms mL mS mws mw mk : AR} (h : RR me tr sz tB ch wo sv sf s0 w0 g0 L0 S0 W0 s1 w1 g1 L1 S1 W1 s2 w2 g2 L2 S2 W2 ll sg sm kn mtr mt mch mwo mx mv ms mL mS mws mw mk)  : ∃ r, P_X10_contract  wo s0 L0 = some r ∧ P_X11_contract  mwo ms mL = some r := by
  have hR := h
  obtain ⟨n, bb, k, vs, W, ns, sl, sn, nw, wl, rfl, rfl, hT, rfl, rfl, rfl, rfl, hC, hM, hK, hI1, hI2, htr, hme, hkn⟩ := h
  obtain ⟨hw1, hw2⟩ := KE_WD hK
  have hK' := hK
  obtain ⟨rfl, rfl, a3, a4, a5, a6, a7, a8⟩ := hK'
  have h9 := hC.1.le
  have hS : SPW k vs W nw wl sv sf W0 mv mws mw := ⟨hC, hM, a6, hw1, hw2⟩
  have hf : ∀ j, j < ns → L0 j = nI (sl j) := fun j hj => (a7 j hj).1
  have hg : ∀ j, j < ns → mL j = nI (sl j) := fun j hj => by have := (a7 j hj).2.2.2.1; rwa [show 8 * 0 + j = j by omega] at this
  have hg2 : ∀ j, j < ns → mS j = sn j := fun j hj => by have := (a7 j hj).2.2.2.2; rwa [show 8 * 0 + j = j by omega] at this
  unfold P_X11_contract
  rw [contract_c h9 a3 hf, contract_m h9 a3 a5 hg]
  exact ⟨_, rfl, rfl⟩
theorem gap_R {me : Int32} {tr : Int64} {sz : Int32} {tB : AR} {ch wo : Int32} {sv sf : AR} {s0 w0 g0 : Int32} {L0 S0 W0 : AR} {s1 w1 g1 : Int32} {L1 S1 W1 : AR} {s2 w2 g2 : Int32} {L2 S2 W2 : AR} {ll : AR} {sg sm kn : Int32} {mtr : Int64} {mt mch mwo : Int32} {mx mv ms mL mS mws mw mk : AR} (h : RR me tr sz tB ch wo sv sf s0 w0 g0 L0 S0 W0 s1 w1 g1 L1 S1 W1 s2 w2 g2 L2 S2 W2 ll sg sm kn mtr mt mch mwo mx mv ms mL mS mws mw mk) (p : Int32) : ∃ r, P_X10_gap p wo s0 L0 = some r ∧ P_X11_gap p mwo ms mL = some r := by
  have hR := h
  obtain ⟨n, bb, k, vs, W, ns, sl, sn, nw, wl, rfl, rfl, hT, rfl, rfl, rfl, rfl, hC, hM, hK, hI1, hI2, htr, hme, hkn⟩ := h
  obtain ⟨hw1, hw2⟩ := KE_WD hK
  have hK' := hK
  obtain ⟨rfl, rfl, a3, a4, a5, a6, a7, a8⟩ := hK'
  have h9 := hC.1.le
  have hS : SPW k vs W nw wl sv sf W0 mv mws mw := ⟨hC, hM, a6, hw1, hw2⟩
  have hf : ∀ j, j < ns → L0 j = nI (sl j) := fun j hj => (a7 j hj).1
  have hg : ∀ j, j < ns → mL j = nI (sl j) := fun j hj => by have := (a7 j hj).2.2.2.1; rwa [show 8 * 0 + j = j by omega] at this
  have hg2 : ∀ j, j < ns → mS j = sn j := fun j hj => by have := (a7 j hj).2.2.2.2; rwa [show 8 * 0 + j = j by omega] at this
  unfold P_X10_gap P_X11_gap
  rcases set_cases h9 p with ⟨s, hs, rfl⟩ | hp
  · rw [isSet_in h9 hs, isSet_in_m h9 hs, Option.bind_some, Option.bind_some, if_neg one_ne, if_neg one_ne, contract_c h9 a3 hf, contract_m h9 a3 a5 hg, Option.bind_some, Option.bind_some, others_eq h9, Option.bind_some, cm_I, nx_and]
    have e : cta W sl ns &&& cm (2 ^ W - 1) s = cm (cta W sl ns) s := by
      have l1 := cta_lt W sl ns
      refine bit_ext (n := W) (Nat.lt_of_le_of_lt Nat.and_le_left l1) (cm_lt l1) (fun i hi => ?_)
      rw [Nat.testBit_and, cm_bit (by omega), cm_bit (by omega), all_bit, decide_eq_true hi, Bool.true_and]
    rw [e]
    exact ⟨_, rfl, rfl⟩
  · rw [isSet_out h9 hp, isSet_out_m h9 hp, Option.bind_some, Option.bind_some, if_pos rfl, if_pos rfl]
    exact ⟨_, rfl, rfl⟩
theorem lost_both {W ns j : Nat} {sl : Nat → Nat} {cf mf ms : AR} (h9 : W ≤ 9) (hn : ns ≤ 8) (hms : ms 0 = nI ns) (hf : ∀ j, j < ns → cf j = nI (sl j)) (hg : ∀ j, j < ns → mf j = nI (sl j)) (hj : j < ns) : ∃ r, P_X10_lostWithout (nI j) (nI W) (nI ns) cf = some r ∧ P_X11_lostBy (nI j) (nI W) ms mf = some r := by
  have ⟨p1, p2⟩ := p9 h9
  have l1 := ct_lt W sl j ns
  have l2 := cta_lt W sl ns
  unfold P_X10_lostWithout P_X11_lostBy
  rw [contractWithout_eq h9 hn (fun i hi => nI_eq (by omega) (by omega)) hf, contractBut_eq h9 hn hms (fun i hi => nI_eq (by omega) (by omega)) hg, Option.bind_some, Option.bind_some, bitCount_eq _ (by omega), bitsIn_eq (by omega), Option.bind_some, Option.bind_some, contract_c h9 hn hf, contract_m h9 hn hms hg, Option.bind_some, Option.bind_some, bitCount_eq _ (by omega), bitsIn_eq (by omega)]
  exact ⟨_, rfl, rfl⟩
theorem lost_R {me : Int32} {tr : Int64} {sz : Int32} {tB : AR} {ch wo : Int32} {sv sf : AR} {s0 w0 g0 : Int32} {L0 S0 W0 : AR} {s1 w1 g1 : Int32} {L1 S1 W1 : AR} {s2 w2 g2 : Int32} {L2 S2 W2 : AR} {ll : AR} {sg sm kn : Int32} {mtr : Int64} {mt mch mwo : Int32} {mx mv ms mL mS mws mw mk : AR} (h : RR me tr sz tB ch wo sv sf s0 w0 g0 L0 S0 W0 s1 w1 g1 L1 S1 W1 s2 w2 g2 L2 S2 W2 ll sg sm kn mtr mt mch mwo mx mv ms mL mS mws mw mk) (p : Int32) : ∃ r, P_X10_lost p wo s0 L0 = some r ∧ P_X11_lost p mwo ms mL = some r := by
  have hR := h
  obtain ⟨n, bb, k, vs, W, ns, sl, sn, nw, wl, rfl, rfl, hT, rfl, rfl, rfl, rfl, hC, hM, hK, hI1, hI2, htr, hme, hkn⟩ := h
  obtain ⟨hw1, hw2⟩ := KE_WD hK
  have hK' := hK
  obtain ⟨rfl, rfl, a3, a4, a5, a6, a7, a8⟩ := hK'
  have h9 := hC.1.le
  have hS : SPW k vs W nw wl sv sf W0 mv mws mw := ⟨hC, hM, a6, hw1, hw2⟩
  have hf : ∀ j, j < ns → L0 j = nI (sl j) := fun j hj => (a7 j hj).1
  have hg : ∀ j, j < ns → mL j = nI (sl j) := fun j hj => by have := (a7 j hj).2.2.2.1; rwa [show 8 * 0 + j = j by omega] at this
  have hg2 : ∀ j, j < ns → mS j = sn j := fun j hj => by have := (a7 j hj).2.2.2.2; rwa [show 8 * 0 + j = j by omega] at this
  unfold P_X10_lost P_X11_lost
  rcases isSaying_m (p := p) a3 a5 with ⟨j, hj, rfl, e1, e2⟩ | ⟨e1, e2⟩
  · obtain ⟨r, r1, r2⟩ := lost_both h9 a3 a5 hf hg hj
    rw [e1, e2, Option.bind_some, Option.bind_some, if_neg one_ne, if_neg one_ne, r1, r2]
    exact ⟨_, rfl, rfl⟩
  · rw [e1, e2, Option.bind_some, Option.bind_some, if_pos rfl, if_pos rfl]
    exact ⟨_, rfl, rfl⟩
theorem common_R {me : Int32} {tr : Int64} {sz : Int32} {tB : AR} {ch wo : Int32} {sv sf : AR} {s0 w0 g0 : Int32} {L0 S0 W0 : AR} {s1 w1 g1 : Int32} {L1 S1 W1 : AR} {s2 w2 g2 : Int32} {L2 S2 W2 : AR} {ll : AR} {sg sm kn : Int32} {mtr : Int64} {mt mch mwo : Int32} {mx mv ms mL mS mws mw mk : AR} (h : RR me tr sz tB ch wo sv sf s0 w0 g0 L0 S0 W0 s1 w1 g1 L1 S1 W1 s2 w2 g2 L2 S2 W2 ll sg sm kn mtr mt mch mwo mx mv ms mL mS mws mw mk) (p q x : Int32) : ∃ r, P_X10_common p q x ch wo sv sf s0 L0 = some r ∧ P_X11_common p q x mch mwo mv ms mL = some r := by
  have hR := h
  obtain ⟨n, bb, k, vs, W, ns, sl, sn, nw, wl, rfl, rfl, hT, rfl, rfl, rfl, rfl, hC, hM, hK, hI1, hI2, htr, hme, hkn⟩ := h
  obtain ⟨hw1, hw2⟩ := KE_WD hK
  have hK' := hK
  obtain ⟨rfl, rfl, a3, a4, a5, a6, a7, a8⟩ := hK'
  have h9 := hC.1.le
  have hS : SPW k vs W nw wl sv sf W0 mv mws mw := ⟨hC, hM, a6, hw1, hw2⟩
  have hf : ∀ j, j < ns → L0 j = nI (sl j) := fun j hj => (a7 j hj).1
  have hg : ∀ j, j < ns → mL j = nI (sl j) := fun j hj => by have := (a7 j hj).2.2.2.1; rwa [show 8 * 0 + j = j by omega] at this
  have hg2 : ∀ j, j < ns → mS j = sn j := fun j hj => by have := (a7 j hj).2.2.2.2; rwa [show 8 * 0 + j = j by omega] at this
  unfold P_X10_common P_X11_common
  rcases seen_cases p with ⟨a, ha, rfl⟩ | hp
  · rcases seen_cases q with ⟨b, hb, rfl⟩ | hq
    · rw [isSeen_in ha, isSeen_in hb, isSeen_m ha hb, Option.bind_some, Option.bind_some, Option.bind_some, if_neg one_ne, if_neg one_ne, if_neg one_ne]
      rcases world_cases hC.1.W1 h9 x with ⟨w, hw, rfl⟩ | hx
      · rw [isWorld_in h9 hw, inW_in h9 hw, Option.bind_some, Option.bind_some, if_neg one_ne, if_neg one_ne, contract_c h9 a3 hf, contract_m h9 a3 a5 hg, Option.bind_some, Option.bind_some, inCommon_eq hC ha hb (cta_lt W sl ns) hw, nx_one (by omega), nx_and, common_m_eq hM ha hb (cta_lt W sl ns) hw]
        exact ⟨_, rfl, rfl⟩
      · rw [isWorld_out hx, inW_out hC.1.W1 h9 hx, Option.bind_some, Option.bind_some, if_pos rfl, if_pos rfl]
        exact ⟨_, rfl, rfl⟩
    · rw [isSeen_in ha, isSeen_out hq, isSeen_m1 ha hq, Option.bind_some, Option.bind_some, Option.bind_some, if_neg one_ne, if_pos rfl, if_pos rfl]
      exact ⟨_, rfl, rfl⟩
  · rw [isSeen_out hp, isSeen_m0 hp, Option.bind_some, Option.bind_some, if_pos rfl, if_pos rfl]
    exact ⟨_, rfl, rfl⟩
theorem talk_R {me : Int32} {tr : Int64} {sz : Int32} {tB : AR} {ch wo : Int32} {sv sf : AR} {s0 w0 g0 : Int32} {L0 S0 W0 : AR} {s1 w1 g1 : Int32} {L1 S1 W1 : AR} {s2 w2 g2 : Int32} {L2 S2 W2 : AR} {ll : AR} {sg sm kn : Int32} {mtr : Int64} {mt mch mwo : Int32} {mx mv ms mL mS mws mw mk : AR} (h : RR me tr sz tB ch wo sv sf s0 w0 g0 L0 S0 W0 s1 w1 g1 L1 S1 W1 s2 w2 g2 L2 S2 W2 ll sg sm kn mtr mt mch mwo mx mv ms mL mS mws mw mk) (p q x : Int32) : ∃ r, P_X10_talk p q x ch wo sv sf s0 L0 = some r ∧ P_X11_talk p q x mch mwo mv ms mL = some r := by
  have hR := h
  obtain ⟨n, bb, k, vs, W, ns, sl, sn, nw, wl, rfl, rfl, hT, rfl, rfl, rfl, rfl, hC, hM, hK, hI1, hI2, htr, hme, hkn⟩ := h
  obtain ⟨hw1, hw2⟩ := KE_WD hK
  have hK' := hK
  obtain ⟨rfl, rfl, a3, a4, a5, a6, a7, a8⟩ := hK'
  have h9 := hC.1.le
  have hS : SPW k vs W nw wl sv sf W0 mv mws mw := ⟨hC, hM, a6, hw1, hw2⟩
  have hf : ∀ j, j < ns → L0 j = nI (sl j) := fun j hj => (a7 j hj).1
  have hg : ∀ j, j < ns → mL j = nI (sl j) := fun j hj => by have := (a7 j hj).2.2.2.1; rwa [show 8 * 0 + j = j by omega] at this
  have hg2 : ∀ j, j < ns → mS j = sn j := fun j hj => by have := (a7 j hj).2.2.2.2; rwa [show 8 * 0 + j = j by omega] at this
  unfold P_X10_talk P_X11_talk
  rcases seen_cases p with ⟨a, ha, rfl⟩ | hp
  · rcases seen_cases q with ⟨b, hb, rfl⟩ | hq
    · rw [isSeen_in ha, isSeen_in hb, isSeen_m ha hb, Option.bind_some, Option.bind_some, Option.bind_some, if_neg one_ne, if_neg one_ne, if_neg one_ne]
      rcases world_cases hC.1.W1 h9 x with ⟨w, hw, rfl⟩ | hx
      · have ⟨p1, p2⟩ := p9 h9
        have l1 := cta_lt W sl ns
        rw [isWorld_in h9 hw, inW_in h9 hw, Option.bind_some, Option.bind_some, if_neg one_ne, if_neg one_ne, contract_c h9 a3 hf, contract_m h9 a3 a5 hg, Option.bind_some, Option.bind_some, has_eq (by omega) (by omega), bit_I (by omega) (by omega), Option.bind_some]
        cases ht : (cta W sl ns).testBit w with
        | false =>
          rw [if_pos (show bI false = 0 from rfl), if_pos (show bI false = 0 from rfl)]
          exact ⟨_, rfl, rfl⟩
        | true =>
          rw [if_neg (show ¬ bI true = 0 by decide), if_neg (show ¬ bI true = 0 by decide)]
          exact talk_loop hC hM hw ha hb 30 1 QF QF _ (by decide) (by unfold QF; decide) (by unfold QF; decide) l1 ht
      · rw [isWorld_out hx, inW_out hC.1.W1 h9 hx, Option.bind_some, Option.bind_some, if_pos rfl, if_pos rfl]
        exact ⟨_, rfl, rfl⟩
    · rw [isSeen_in ha, isSeen_out hq, isSeen_m1 ha hq, Option.bind_some, Option.bind_some, Option.bind_some, if_neg one_ne, if_pos rfl, if_pos rfl]
      exact ⟨_, rfl, rfl⟩
  · rw [isSeen_out hp, isSeen_m0 hp, Option.bind_some, Option.bind_some, if_pos rfl, if_pos rfl]
    exact ⟨_, rfl, rfl⟩
theorem silence_R {me : Int32} {tr : Int64} {sz : Int32} {tB : AR} {ch wo : Int32} {sv sf : AR} {s0 w0 g0 : Int32} {L0 S0 W0 : AR} {s1 w1 g1 : Int32} {L1 S1 W1 : AR} {s2 w2 g2 : Int32} {L2 S2 W2 : AR} {ll : AR} {sg sm kn : Int32} {mtr : Int64} {mt mch mwo : Int32} {mx mv ms mL mS mws mw mk : AR} (h : RR me tr sz tB ch wo sv sf s0 w0 g0 L0 S0 W0 s1 w1 g1 L1 S1 W1 s2 w2 g2 L2 S2 W2 ll sg sm kn mtr mt mch mwo mx mv ms mL mS mws mw mk) (p q x : Int32) : ∃ r, P_X10_silence p q x ch wo sv sf s0 L0 = some r ∧ P_X11_silence p q x mch mwo mv ms mL = some r := by
  have hR := h
  obtain ⟨n, bb, k, vs, W, ns, sl, sn, nw, wl, rfl, rfl, hT, rfl, rfl, rfl, rfl, hC, hM, hK, hI1, hI2, htr, hme, hkn⟩ := h
  obtain ⟨hw1, hw2⟩ := KE_WD hK
  have hK' := hK
  obtain ⟨rfl, rfl, a3, a4, a5, a6, a7, a8⟩ := hK'
  have h9 := hC.1.le
  have hS : SPW k vs W nw wl sv sf W0 mv mws mw := ⟨hC, hM, a6, hw1, hw2⟩
  have hf : ∀ j, j < ns → L0 j = nI (sl j) := fun j hj => (a7 j hj).1
  have hg : ∀ j, j < ns → mL j = nI (sl j) := fun j hj => by have := (a7 j hj).2.2.2.1; rwa [show 8 * 0 + j = j by omega] at this
  have hg2 : ∀ j, j < ns → mS j = sn j := fun j hj => by have := (a7 j hj).2.2.2.2; rwa [show 8 * 0 + j = j by omega] at this
  unfold P_X10_silence P_X11_silence
  rcases seen_cases p with ⟨a, ha, rfl⟩ | hp
  · rcases seen_cases q with ⟨b, hb, rfl⟩ | hq
    · rw [isSeen_in ha, isSeen_in hb, isSeen_m ha hb, Option.bind_some, Option.bind_some, Option.bind_some, if_neg one_ne, if_neg one_ne, if_neg one_ne]
      rcases int_cases (show 30 < 2 ^ 31 by decide) x with ⟨e, he, rfl⟩ | hx
      · have b1 : ∀ A B : Option Int32, (if nI e < 0 then A else if nI e ≤ 30 then B else A) = B := fun A B => bt_in (c := 30) he (by decide)
        have b2 : P_X11_in (nI e) 0 30 = some 1 := in0 (c := 30) he (by decide)
        rw [b1, b2, Option.bind_some, if_neg one_ne, contract_c h9 a3 hf, contract_m h9 a3 a5 hg, Option.bind_some, Option.bind_some]
        exact silence_loop hC hM ha hb he e 1 QF QF _ (by omega) (by unfold QF; omega) (by unfold QF; omega) (cta_lt W sl ns)
      · have b1 : ∀ A B : Option Int32, (if x < 0 then A else if x ≤ 30 then B else A) = A := fun A B => bt_out (c := 30) hx
        have b2 : P_X11_in x 0 30 = some 0 := in_out hx
        rw [b1, b2, Option.bind_some, if_pos rfl]
        exact ⟨_, rfl, rfl⟩
    · rw [isSeen_in ha, isSeen_out hq, isSeen_m1 ha hq, Option.bind_some, Option.bind_some, Option.bind_some, if_neg one_ne, if_pos rfl, if_pos rfl]
      exact ⟨_, rfl, rfl⟩
  · rw [isSeen_out hp, isSeen_m0 hp, Option.bind_some, Option.bind_some, if_pos rfl, if_pos rfl]
    exact ⟨_, rfl, rfl⟩
theorem count_R {me : Int32} {tr : Int64} {sz : Int32} {tB : AR} {ch wo : Int32} {sv sf : AR} {s0 w0 g0 : Int32} {L0 S0 W0 : AR} {s1 w1 g1 : Int32} {L1 S1 W1 : AR} {s2 w2 g2 : Int32} {L2 S2 W2 : AR} {ll : AR} {sg sm kn : Int32} {mtr : Int64} {mt mch mwo : Int32} {mx mv ms mL mS mws mw mk : AR} (h : RR me tr sz tB ch wo sv sf s0 w0 g0 L0 S0 W0 s1 w1 g1 L1 S1 W1 s2 w2 g2 L2 S2 W2 ll sg sm kn mtr mt mch mwo mx mv ms mL mS mws mw mk) (p : Int32) : ∃ r, P_X10_count p sz ch wo s0 w0 = some r ∧ P_X11_count p mt mch mwo ms mws = some r := by
  have hR := h
  obtain ⟨n, bb, k, vs, W, ns, sl, sn, nw, wl, rfl, rfl, hT, rfl, rfl, rfl, rfl, hC, hM, hK, hI1, hI2, htr, hme, hkn⟩ := h
  obtain ⟨hw1, hw2⟩ := KE_WD hK
  have hK' := hK
  obtain ⟨rfl, rfl, a3, a4, a5, a6, a7, a8⟩ := hK'
  have h9 := hC.1.le
  have hS : SPW k vs W nw wl sv sf W0 mv mws mw := ⟨hC, hM, a6, hw1, hw2⟩
  have hf : ∀ j, j < ns → L0 j = nI (sl j) := fun j hj => (a7 j hj).1
  have hg : ∀ j, j < ns → mL j = nI (sl j) := fun j hj => by have := (a7 j hj).2.2.2.1; rwa [show 8 * 0 + j = j by omega] at this
  have hg2 : ∀ j, j < ns → mS j = sn j := fun j hj => by have := (a7 j hj).2.2.2.2; rwa [show 8 * 0 + j = j by omega] at this
  unfold P_X10_count P_X11_count P_X8_choices P_X8_worlds P_X0_sayings P_X0_words P_X6_size
  rw [ck0 _ (by decide) (by decide), ck0 _ (by decide) (by decide), cl0, a5, a6, Option.bind_some, Option.bind_some, Option.bind_some, Option.bind_some, Option.bind_some]
  have ite_ex : ∀ (P : Prop) [Decidable P] (A : Int32) (B : Option Int32), (∃ r, B = some r) → ∃ r, (if P then some A else B) = some r := by
    intro P _ A B hB
    by_cases e : P
    · exact ⟨A, if_pos e⟩
    · rw [if_neg e]; exact hB
  obtain ⟨r, hr⟩ := ite_ex (p = 0) (nI k) _ (ite_ex (p = 1) (nI W) _ (ite_ex (p = 2) (nI ns) _ (ite_ex (p = 3) (nI nw) _ (ite_ex (p = 4) (nI n) _ ⟨-1, rfl⟩))))
  exact ⟨r, hr, hr⟩
