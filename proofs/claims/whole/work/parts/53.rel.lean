/-! what holds between the class's object and the reference's, from call to call -/
abbrev AR := Nat → Int32
def KE (W j : Nat) (cs cw : Int32) (fL fS fW ms mL mS mws mw : AR) (ns : Nat) (sl : Nat → Nat) (sn : AR) (nw : Nat) (wl : Nat → Nat) : Prop := cs = nI ns ∧ cw = nI nw ∧ ns ≤ 8 ∧ nw ≤ 3 ∧ ms j = nI ns ∧ mws j = nI nw ∧ (∀ i, i < ns → fL i = nI (sl i) ∧ sl i < 2 ^ W ∧ fS i = sn i ∧ mL (8 * j + i) = nI (sl i) ∧ mS (8 * j + i) = sn i) ∧ ∀ i, i < nw → fW i = nI (wl i) ∧ wl i < 2 ^ W ∧ mw (3 * j + i) = nI (wl i)
def IM (W j : Nat) (cs cw g : Int32) (fL fS fW ms mL mS mws mw : AR) (q : Int32) : Prop := (g = 0 ∧ q = 0) ∨ (g = 1 ∧ q = 1 ∧ ∃ ns sl sn nw wl, KE W j cs cw fL fS fW ms mL mS mws mw ns sl sn nw wl)
def RR (me : Int32) (tr : Int64) (sz : Int32) (tB : AR) (ch wo : Int32) (sv sf : AR) (s0 w0 g0 : Int32) (L0 S0 W0 : AR) (s1 w1 g1 : Int32) (L1 S1 W1 : AR) (s2 w2 g2 : Int32) (L2 S2 W2 : AR) (ll : AR) (sg sm kn : Int32) (mtr : Int64) (mt mch mwo : Int32) (mx mv ms mL mS mws mw mk : AR) : Prop := ∃ n b k vs W ns sl sn nw wl, sz = nI n ∧ mt = nI n ∧ TX n b tB mx ∧ ch = nI k ∧ mch = nI k ∧ wo = nI W ∧ mwo = nI W ∧ CT k vs W sv sf ∧ MT k vs W mv ∧ KE W 0 s0 w0 L0 S0 W0 ms mL mS mws mw ns sl sn nw wl ∧ IM W 1 s1 w1 g1 L1 S1 W1 ms mL mS mws mw (mk 0) ∧ IM W 2 s2 w2 g2 L2 S2 W2 ms mL mS mws mw (mk 1) ∧ mtr = tr ∧ ME k vs W nw wl me ll ∧ KN k vs W nw wl kn sg sm
theorem TX_0 (b : Nat → Nat) (fB fm : AR) : TX 0 b fB fm := ⟨by decide, fun i hi => absurd hi (Nat.not_lt_zero i)⟩
theorem KE_0 {W j : Nat} {fL fS fW ms mL mS mws mw : AR} (h1 : ms j = 0) (h2 : mws j = 0) (sl : Nat → Nat) (sn : AR) (wl : Nat → Nat) : KE W j 0 0 fL fS fW ms mL mS mws mw 0 sl sn 0 wl := ⟨rfl, rfl, by decide, by decide, h1, h2, fun i hi => absurd hi (Nat.not_lt_zero i), fun i hi => absurd hi (Nat.not_lt_zero i)⟩
theorem TD_TG {c w : Nat} {d : Nat → Nat} (h : TD c d w) : TG c (fun j => if j < c then d j else 1) w := by
  refine ⟨h.1, fun i hi => ?_, fun i hi => if_neg (by omega), ?_, h.2.2.2⟩
  · show 2 ≤ (if i < c then d i else 1) ∧ (if i < c then d i else 1) ≤ 9
    rw [if_pos hi]; exact h.2.1 i hi
  · rw [h.2.2.1]
    exact stp_congr c (fun j hj => (if_pos hj).symm)
theorem tongue_R {me : Int32} {tr : Int64} {sz : Int32} {tB : AR} {ch wo : Int32} {sv sf : AR} {s0 w0 g0 : Int32} {L0 S0 W0 : AR} {s1 w1 g1 : Int32} {L1 S1 W1 : AR} {s2 w2 g2 : Int32} {L2 S2 W2 : AR} {ll : AR} {sg sm kn : Int32} {mtr : Int64} {mt mch mwo : Int32} {mx mv ms mL mS mws mw mk : AR} (h : RR me tr sz tB ch wo sv sf s0 w0 g0 L0 S0 W0 s1 w1 g1 L1 S1 W1 s2 w2 g2 L2 S2 W2 ll sg sm kn mtr mt mch mwo mx mv ms mL mS mws mw mk) (rc t1 t2 t3 : Int32) (rv : AR) (a b c d e : Int32) (dr : AR) : ∃ r me' sz' ch' wo' sv' sf' s0' w0' g0' s1' w1' g1' s2' w2' g2' rc' t1' t2' t3' rv' kn' mt' mch' mwo' a' b' c' d' e' mv' dr' ms' mws' mk', P_X10_tongue me sz tB ch wo sv sf s0 w0 g0 s1 w1 g1 s2 w2 g2 rc t1 t2 t3 rv kn = some (r, me', sz', ch', wo', sv', sf', s0', w0', g0', s1', w1', g1', s2', w2', g2', rc', t1', t2', t3', rv', kn') ∧ P_X11_tongue mt mch mwo a b c d e mx mv dr ms mws mk = some (r, mt', mch', mwo', a', b', c', d', e', mv', dr', ms', mws', mk') ∧ RR me' tr sz' tB ch' wo' sv' sf' s0' w0' g0' L0 S0 W0 s1' w1' g1' L1 S1 W1 s2' w2' g2' L2 S2 W2 ll sg sm kn' mtr mt' mch' mwo' mx mv' ms' mL mS mws' mw mk' := by
  have hR := h
  obtain ⟨n, bb, k, vs, W, ns, sl, sn, nw, wl, h1, h2, hT, h4, h5, h6, h7, hC, hM, hK, hI1, hI2, htr, hme, hkn⟩ := h
  obtain ⟨q, p, s, v, hS⟩ := step_both hT (Nat.zero_le n)
  have hS' := hS
  obtain ⟨kd, -, x2, -⟩ := hS'
  have lp := tongue_loop (K := tK mt mch mwo mv ms mws mk) hT 3 0 (by decide) QF QF 0 q p s 1 v 0 0 (fun _ => 0) rv dr (by unfold QF; omega) (by unfold QF; omega) ⟨by decide, fun j hj => absurd hj (Nat.not_lt_zero j), rfl, by decide⟩ (fun j hj => absurd hj (Nat.not_lt_zero j)) hS
  have lp' : OKT (P_X2_faultOfTongue_16 (nI n) tB kp kp kp kp QF 1 0 0 0 0 0 rv) (P_X11_tongue_19 (nI n) mx (tK mt mch mwo mv ms mws mk) QF 0 1 (nI q) (nI p) (nI s) v (-9) dr) (tK mt mch mwo mv ms mws mk) := lp
  obtain ⟨z1, z2, z3, z4, z5, z6, X, hz⟩ := lp'
  have x2' : P_X11_next (nI n) 0 b c d mx = some (nI q, nI p, nI s, v) := x2 b c d
  have hm : P_X11_tongue mt mch mwo a b c d e mx mv dr ms mws mk = P_X11_tongue_19 (nI n) mx (tK mt mch mwo mv ms mws mk) QF 0 1 (nI q) (nI p) (nI s) v (-9) dr := by
    rw [tongue_unf, h2, x2', Option.bind_some]
  have hc : P_X2_faultOfTongue rc t1 t2 t3 sz tB rv = some (z1, z2, z3, z4, z5, z6) := by
    rw [faultT_unf, h1]; exact X
  rcases hz with ⟨c', d', w', e1, e2, e3, hTD, a2, b2, c2, d2, dr2, Y, hdr⟩ | ⟨p', hp', e1, c2, w2', a2, b2, c3, d2, dr2, Y⟩
  · obtain ⟨mv', hk, hmv⟩ := tK_good (o_typed := mt) (o_choices := mch) (o_worlds := mwo) (f_values := mv) (f_sayings := ms) (f_words := mws) (f_isKept := mk) (c := c') (w := nI w') (a := a2) (st := b2) (so := c2) (va := d2) (dr := dr2) hTD.1
    subst e1
    subst e2
    have hG := TD_TG hTD
    obtain ⟨sv', y1, y2⟩ := add_loop (z1 := -1) (z3 := z3) (z4 := z4) (z5 := z5) (z6 := z6) (d := d') (K := fun x59_speech_choices x59_speech_worlds x59_f_speech_values => (P_X8_layOut x59_speech_choices x59_speech_worlds x59_f_speech_values sf).bind fun z_63 => (P_X6_drop sz).bind fun z_70 => (P_X0_forget s0 w0 g0).bind fun z_78 => (P_X0_forget s1 w1 g1).bind fun z_85 => (P_X0_forget s2 w2 g2).bind fun z_92 => (P_X10_signsChanged me kn).bind fun z_96 => (P_X8_choices x59_speech_choices).bind fun z_103 => some (z_103, z_96.1, z_70.2, x59_speech_choices, x59_speech_worlds, x59_f_speech_values, z_63, z_78.1, z_78.2.1, z_78.2.2, z_85.1, z_85.2.1, z_85.2.2, z_92.1, z_92.2.1, z_92.2.2, nI c', z3, z4, z5, z6, z_96.2)) hTD.1 e3 c' 0 QF sv (by omega) (by have := hTD.1; unfold QF; omega) (fun j hj => absurd hj (Nat.not_lt_zero j))
    have y1' : P_X10_tongue_27 (-1, nI c', z3, z4, z5, z6) _ QF 0 0 1 sv = _ := y1
    obtain ⟨fl', g1', g2'⟩ := layOut_eq (fv := sv') hG (fun i hi => by rw [y2 i hi]; exact congrArg nI (if_pos hi).symm) sf
    have cls : P_X10_tongue me sz tB ch wo sv sf s0 w0 g0 s1 w1 g1 s2 w2 g2 rc t1 t2 t3 rv kn = some (nI c', 0, 0, nI c', nI w', sv', fl', 0, 0, 0, 0, 0, 0, 0, 0, 0, nI c', z3, z4, z5, z6, 0) := by
      unfold P_X10_tongue P_X8_begin
      rw [hc, Option.bind_some, if_pos rfl, Option.bind_some, jn]
      show P_X10_tongue_27 (-1, nI c', z3, z4, z5, z6) _ QF 0 0 1 sv = _
      rw [y1', ← hTD.2.2.1, g1']
      rfl
    refine ⟨_, _, _, _, _, _, _, _, _, _, _, _, _, _, _, _, _, _, _, _, _, _, _, _, _, _, _, _, _, _, _, _, _, _, _, cls, hm.trans (Y.trans hk), ?_⟩
    refine ⟨0, bb, c', _, w', 0, sl, sn, 0, wl, rfl, rfl, TX_0 _ _ _, rfl, rfl, rfl, rfl, g2', ⟨hG, fun i hi => ?_⟩, KE_0 pk_us pk_us _ _ _, Or.inl ⟨rfl, ?_⟩, Or.inl ⟨rfl, pk_us⟩, htr, Or.inl rfl, Or.inl rfl⟩
    · rw [hmv i (by have := hTD.1; omega)]
      show (if i < c' then dr2 i else 1) = nI (if i < c' then d' i else 1)
      by_cases g : i < c'
      · rw [if_pos g, hdr i g, if_pos g]
      · rw [if_neg g, if_neg g]; rfl
    · rw [pk_un (by decide), pk_us]
  · have fp : ¬ nI p' = -9 := n9_ne (by omega)
    have nm : ¬ nI p' = -1 := v_ne1 (by omega)
    rw [tK_fault fp] at Y
    have cls : P_X10_tongue me sz tB ch wo sv sf s0 w0 g0 s1 w1 g1 s2 w2 g2 rc t1 t2 t3 rv kn = some ((-10) - nI p', me, sz, ch, wo, sv, sf, s0, w0, g0, s1, w1, g1, s2, w2, g2, z2, z3, z4, z5, z6, kn) := by
      unfold P_X10_tongue
      rw [hc, Option.bind_some, e1, if_neg nm]
    exact ⟨_, _, _, _, _, _, _, _, _, _, _, _, _, _, _, _, _, _, _, _, _, _, _, _, _, _, _, _, _, _, _, _, _, _, _, cls, hm.trans Y, hR⟩
