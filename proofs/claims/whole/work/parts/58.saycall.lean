/-! the call say -/
theorem KE_congr {W j : Nat} {cs cw : Int32} {fL fS fW ms mL mS mws mw ms' mL' mS' mws' mw' : AR} {ns : Nat} {sl : Nat → Nat} {sn : AR} {nw : Nat} {wl : Nat → Nat} (h : KE W j cs cw fL fS fW ms mL mS mws mw ns sl sn nw wl) (h1 : ms' j = ms j) (h2 : mws' j = mws j) (h3 : ∀ i, i < 8 → mL' (8 * j + i) = mL (8 * j + i)) (h4 : ∀ i, i < 8 → mS' (8 * j + i) = mS (8 * j + i)) (h5 : ∀ i, i < 3 → mw' (3 * j + i) = mw (3 * j + i)) : KE W j cs cw fL fS fW ms' mL' mS' mws' mw' ns sl sn nw wl := by
  obtain ⟨a1, a2, a3, a4, a5, a6, a7, a8⟩ := h
  refine ⟨a1, a2, a3, a4, h1.trans a5, h2.trans a6, fun i hi => ?_, fun i hi => ?_⟩
  · obtain ⟨b1, b2, b3, b4, b5⟩ := a7 i hi
    exact ⟨b1, b2, b3, (h3 i (by omega)).trans b4, (h4 i (by omega)).trans b5⟩
  · obtain ⟨b1, b2, b3⟩ := a8 i hi
    exact ⟨b1, b2, (h5 i (by omega)).trans b3⟩
theorem IM_congr {W j : Nat} {cs cw g q : Int32} {fL fS fW ms mL mS mws mw ms' mL' mS' mws' mw' : AR} (h : IM W j cs cw g fL fS fW ms mL mS mws mw q) (h1 : ms' j = ms j) (h2 : mws' j = mws j) (h3 : ∀ i, i < 8 → mL' (8 * j + i) = mL (8 * j + i)) (h4 : ∀ i, i < 8 → mS' (8 * j + i) = mS (8 * j + i)) (h5 : ∀ i, i < 3 → mw' (3 * j + i) = mw (3 * j + i)) : IM W j cs cw g fL fS fW ms' mL' mS' mws' mw' q := by
  rcases h with h | ⟨a1, a2, ns, sl, sn, nw, wl, h⟩
  · exact Or.inl h
  · exact Or.inr ⟨a1, a2, ns, sl, sn, nw, wl, KE_congr h h1 h2 h3 h4 h5⟩
theorem KE_WD {W : Nat} {cs cw : Int32} {fL fS fW ms mL mS mws mw : AR} {ns : Nat} {sl : Nat → Nat} {sn : AR} {nw : Nat} {wl : Nat → Nat} (h : KE W 0 cs cw fL fS fW ms mL mS mws mw ns sl sn nw wl) : WD W nw wl fW ∧ WD W nw wl mw := by
  obtain ⟨a1, a2, a3, a4, a5, a6, a7, a8⟩ := h
  refine ⟨⟨a4, fun i hi => ⟨(a8 i hi).1, (a8 i hi).2.1⟩⟩, a4, fun i hi => ⟨?_, (a8 i hi).2.1⟩⟩
  have := (a8 i hi).2.2
  rwa [show 3 * 0 + i = i by omega] at this
theorem sK_fault {o_typed : Int32} {ms mL mS : AR} {a st so va fa d mm : Int32} {sm ev : AR} (h : ¬ fa = -9) : sK o_typed ms mL mS a st so va fa d mm sm ev = some ((-10) - fa, o_typed, a, st, so, va, fa, d, mm, ms, mL, mS, sm, ev) := by
  rw [sK, if_neg h]
theorem sK_good {o_typed : Int32} {ms mL mS : AR} {a st so va d mm : Int32} {sm ev : AR} {ns : Nat} (hms : ms 0 = nI ns) (hn : ns < 8) : sK o_typed ms mL mS a st so va (-9) d mm sm ev = some (nI (ns + 1), 0, a, st, so, va, -9, d, mm, upd ms 0 (nI (ns + 1)), upd mL ns (sm 0 ||| ev 0), upd mS ns mm, sm, ev) := by
  rw [sK, if_pos rfl, ck0 _ (by decide) (by decide), ck0 _ (by decide) (by decide), ck0 _ (by decide) (by decide), cl0, hms, ck_in _ (show ns < 24 by omega) (by decide), ck0 _ (by decide) (by decide), ck_in _ (show ns < 24 by omega) (by decide), ck0 _ (by decide) (by decide), ck0 _ (by decide) (by decide), ck0 _ (by decide) (by decide), nI_clamp (show ns < 2 ^ 31 by omega), nI_1, pk_us]
theorem faultS_unf (a b c d e f n ch wo nw : Int32) (fB fv fl fw tl fc : AR) : P_X2_faultOfSaying a b c d e f n fB ch wo fv fl nw fw tl fc = (P_X2_openLevel 0 c wo tl fc).bind fun z => P_X2_faultOfSaying_23 n fB ch wo fv fl nw fw kq kq QF 0 0 0 z.1 0 0 0 z.2.1 z.2.2 := by
  unfold P_X2_faultOfSaying P_X7_begin
  rw [Option.bind_some]
  refine congrArg _ (funext fun z => ?_)
  rw [jn, jn]
  rfl
theorem KE_say {W : Nat} {cw : Int32} {fL fS fW ms mL mS mws mw : AR} {ns : Nat} {sl : Nat → Nat} {sn : AR} {nw : Nat} {wl : Nat → Nat} {X : Nat} {mm : Int32} (h : KE W 0 (nI ns) cw fL fS fW ms mL mS mws mw ns sl sn nw wl) (hn : ns < 8) (hX : X < 2 ^ W) : KE W 0 (nI (ns + 1)) cw (upd fL ns (nI X)) (upd fS ns mm) fW (upd ms 0 (nI (ns + 1))) (upd mL ns (nI X)) (upd mS ns mm) mws mw (ns + 1) (un sl ns X) (upd sn ns mm) nw wl := by
  obtain ⟨a1, a2, a3, a4, a5, a6, a7, a8⟩ := h
  refine ⟨rfl, a2, by omega, a4, pk_us, a6, fun i hi => ?_, a8⟩
  rw [show 8 * 0 + i = i by omega]
  by_cases e : i = ns
  · rw [e, pk_us, pk_us, pk_us, pk_us, pk_us, un_s]
    exact ⟨rfl, hX, rfl, rfl, rfl⟩
  · have := a7 i (by omega)
    rw [show 8 * 0 + i = i by omega] at this
    rw [pk_un e, pk_un e, pk_un e, pk_un e, pk_un e, un_n _ _ e]
    exact this
theorem say_R {me : Int32} {tr : Int64} {sz : Int32} {tB : AR} {ch wo : Int32} {sv sf : AR} {s0 w0 g0 : Int32} {L0 S0 W0 : AR} {s1 w1 g1 : Int32} {L1 S1 W1 : AR} {s2 w2 g2 : Int32} {L2 S2 W2 : AR} {ll : AR} {sg sm kn : Int32} {mtr : Int64} {mt mch mwo : Int32} {mx mv ms mL mS mws mw mk : AR} (h : RR me tr sz tB ch wo sv sf s0 w0 g0 L0 S0 W0 s1 w1 g1 L1 S1 W1 s2 w2 g2 L2 S2 W2 ll sg sm kn mtr mt mch mwo mx mv ms mL mS mws mw mk) (r1 r2 r3 t1 t2 t3 : Int32) (tl fc : AR) (a b c d e x y : Int32) (so ev : AR) : ∃ r sz' s0' L0' S0' r1' r2' r3' t1' t2' t3' tl' fc' mt' a' b' c' d' e' x' y' ms' mL' mS' so' ev', P_X10_say sz tB ch wo sv sf s0 w0 L0 S0 W0 r1 r2 r3 t1 t2 t3 tl fc = some (r, sz', s0', L0', S0', r1', r2', r3', t1', t2', t3', tl', fc') ∧ P_X11_say mt mch mwo a b c d e x y mx mv ms mL mS mws mw so ev = some (r, mt', a', b', c', d', e', x', y', ms', mL', mS', so', ev') ∧ RR me tr sz' tB ch wo sv sf s0' w0 g0 L0' S0' W0 s1 w1 g1 L1 S1 W1 s2 w2 g2 L2 S2 W2 ll sg sm kn mtr mt' mch mwo mx mv ms' mL' mS' mws mw mk := by
  have hR := h
  obtain ⟨n, bb, k, vs, W, ns, sl, sn, nw, wl, rfl, rfl, hT, rfl, rfl, rfl, rfl, hC, hM, hK, hI1, hI2, htr, hme, hkn⟩ := h
  obtain ⟨hw1, hw2⟩ := KE_WD hK
  have hK' := hK
  obtain ⟨rfl, rfl, a3, a4, a5, a6, a7, a8⟩ := hK'
  have h9 := hC.1.le
  unfold P_X10_say P_X0_sayings
  rw [Option.bind_some, say_unf, ck0 _ (by decide) (by decide), cl0, a5]
  by_cases n8 : ns = 8
  · rw [if_neg (show ¬ nI ns < 8 by rw [n8]; decide), if_pos (show nI ns = 8 by rw [n8]; rfl)]
    exact ⟨_, _, _, _, _, _, _, _, _, _, _, _, _, _, _, _, _, _, _, _, _, _, _, _, _, _, rfl, rfl, hR⟩
  · obtain ⟨q, p, s, v, hS⟩ := step_both hT (Nat.zero_le n)
    have hS' := hS
    obtain ⟨kd, -, x2, -⟩ := hS'
    have x2' : P_X11_next (nI n) 0 b c d mx = some (nI q, nI p, nI s, v) := x2 b c d
    rw [if_pos (show nI ns < 8 from nI_lt (b := 8) (by omega) (by decide)), if_neg (show ¬ nI ns = 8 from fun z => n8 ((nI_eq (b := 8) (by omega) (by decide)).mp z)), faultS_unf]
    unfold P_X2_openLevel P_X11_open
    have p0 : ∀ (x : Int32) (f : AR), P_X4_put 10 0 x f = some (upd f 0 x) := fun x f => put_in (j := 0) f x (by decide) (by decide)
    rw [p0, Option.bind_some, all_eq h9, Option.bind_some, p0, Option.bind_some, Option.bind_some, ck0 _ (by decide) (by decide), allSets_eq h9, Option.bind_some, ck0 _ (by decide) (by decide), Option.bind_some, x2', Option.bind_some]
    have AA0 : AA 0 W (upd tl 0 0) (upd fc 0 (nI (2 ^ W - 1))) (upd so 0 0) (upd ev 0 (nI (2 ^ W - 1))) := by
      intro j hj
      have := Nat.one_le_two_pow (n := W)
      rw [show j = 0 by omega, pk_us, pk_us, pk_us, pk_us]
      exact ⟨0, 2 ^ W - 1, by omega, by omega, rfl, rfl, rfl, rfl⟩
    have sim := (say_sim (K := sK (nI n) ms mL mS) hT hC hM a6 hw1 hw2 200 0 rfl).1 0 0 q p s QF QF v 0 0 0 _ _ _ _ (Nat.le_refl _) (by decide) AA0 hS (by have := hT.1; unfold QF; omega) (by have := hT.1; unfold QF; omega)
    have sim' : OKS (P_X2_faultOfSaying_23 (nI n) tB (nI k) (nI W) sv sf (nI nw) W0 kq kq QF 0 0 0 1 0 0 0 (upd tl 0 0) (upd fc 0 (nI (2 ^ W - 1)))) (P_X11_say_41 (nI n) (nI k) (nI W) mx mv mws mw (sK (nI n) ms mL mS) QF 1 (nI q) (nI p) (nI s) v (-9) 0 0 (upd so 0 0) (upd ev 0 (nI (2 ^ W - 1)))) (sK (nI n) ms mL mS) W := sim
    rcases sim' with ⟨mm, y1, y2, y3, tl', fc', z1, z2, z3, z4, sm', ev', X, Y, e1, e2, b1, b2, b3, b4, b5, b6⟩ | ⟨pp, z2, z3, z4, z5, z6, z7, z8, z9, hp, e1, z10, z11, z12, z13, z14, mm, sm', ev', e2⟩
    · have hXY : X ||| Y < 2 ^ W := Nat.or_lt_two_pow b1 b2
      have e1' : P_X2_faultOfSaying_23 (nI n) tB (nI k) (nI W) sv sf (nI nw) W0 kq kq QF 0 0 0 1 0 0 0 (upd tl (0 : Int32).toNatClampNeg 0) (upd fc (0 : Int32).toNatClampNeg (nI (2 ^ W - 1))) = _ := e1
      have e2' : P_X11_say_41 (nI n) (nI k) (nI W) mx mv mws mw (sK (nI n) ms mL mS) QF 1 (nI q) (nI p) (nI s) v (-9) 0 0 (upd so (0 : Int32).toNatClampNeg 0) (upd ev (0 : Int32).toNatClampNeg (nI (2 ^ W - 1))) = _ := e2
      have cls : ((P_X2_faultOfSaying_23 (nI n) tB (nI k) (nI W) sv sf (nI nw) W0 kq kq QF 0 0 0 1 0 0 0 (upd tl 0 0) (upd fc 0 (nI (2 ^ W - 1)))).bind fun (z_19 : Z9) => if z_19.1 = (-1) then ((P_X2_leftBySaying z_19.2.1 z_19.2.2.2.2.2.2.2.1 z_19.2.2.2.2.2.2.2.2).bind fun (z_41 : Int32) => (P_X2_signsRead z_19.2.2.1).bind fun (z_48 : Int32) => (P_X0_addSaying z_41 z_48 (nI ns) L0 S0).bind fun (z_51 : Int32 × AR × AR) => (P_X6_drop (nI n)).bind fun (z_58 : Int32 × Int32) => (some z_51.1).bind fun (z_66 : Int32) => some (z_66, z_58.2, z_51.1, z_51.2.1, z_51.2.2, z_19.2.1, z_19.2.2.1, z_19.2.2.2.1, z_19.2.2.2.2.1, z_19.2.2.2.2.2.1, z_19.2.2.2.2.2.2.1, z_19.2.2.2.2.2.2.2.1, z_19.2.2.2.2.2.2.2.2)) else some ((-10) - z_19.1, nI n, nI ns, L0, S0, z_19.2.1, z_19.2.2.1, z_19.2.2.2.1, z_19.2.2.2.2.1, z_19.2.2.2.2.2.1, z_19.2.2.2.2.2.2.1, z_19.2.2.2.2.2.2.2.1, z_19.2.2.2.2.2.2.2.2)) = some (nI (ns + 1), 0, nI (ns + 1), upd L0 ns (nI (X ||| Y)), upd S0 ns mm, 0, mm, 0, y1, y2, y3, tl', fc') := by
        rw [e1, Option.bind_some, if_pos rfl]
        unfold P_X2_leftBySaying P_X2_levelLeft P_X0_addSaying
        show Option.bind ((Option.bind (P_X4_at 10 (nI 0) tl') fun z_8 => (P_X4_at 10 (nI 0) fc').bind fun z_19 => some (z_8 ||| z_19)).bind fun z => some z) _ = _
        rw [at_in _ (by decide) (by decide), Option.bind_some, at_in _ (by decide) (by decide), Option.bind_some, Option.bind_some, Option.bind_some, b3, b5, nx_or]
        unfold P_X2_signsRead
        rw [Option.bind_some, put_in _ _ (show ns < 8 by omega) (by decide), Option.bind_some]
        show Option.bind (Option.bind (P_X4_put 8 (nI ns) mm S0) _) _ = _
        rw [put_in _ _ (show ns < 8 by omega) (by decide), Option.bind_some, Option.bind_some, nI_1]
        rfl
      refine ⟨_, _, _, _, _, _, _, _, _, _, _, _, _, _, _, _, _, _, _, _, _, _, _, _, _, _, cls, e2'.trans (sK_good a5 (by omega)), ?_⟩
      refine ⟨0, bb, k, vs, W, ns + 1, un sl ns (X ||| Y), upd sn ns mm, nw, wl, rfl, rfl, TX_0 _ _ _, rfl, rfl, rfl, rfl, hC, hM, ?_, IM_congr hI1 (pk_un (by decide)) rfl (fun i hi => pk_un (by omega)) (fun i hi => pk_un (by omega)) (fun _ _ => rfl), IM_congr hI2 (pk_un (by decide)) rfl (fun i hi => pk_un (by omega)) (fun i hi => pk_un (by omega)) (fun _ _ => rfl), htr, hme, hkn⟩
      rw [b4, b6, nx_or]
      exact KE_say hK (by omega) hXY
    · have fp : ¬ nI pp = -9 := n9_ne (by omega)
      have nm : ¬ nI pp = -1 := v_ne1 (by omega)
      have e2' : P_X11_say_41 (nI n) (nI k) (nI W) mx mv mws mw (sK (nI n) ms mL mS) QF 1 (nI q) (nI p) (nI s) v (-9) 0 0 (upd so (0 : Int32).toNatClampNeg 0) (upd ev (0 : Int32).toNatClampNeg (nI (2 ^ W - 1))) = _ := e2
      have cls : ((P_X2_faultOfSaying_23 (nI n) tB (nI k) (nI W) sv sf (nI nw) W0 kq kq QF 0 0 0 1 0 0 0 (upd tl 0 0) (upd fc 0 (nI (2 ^ W - 1)))).bind fun (z_19 : Z9) => if z_19.1 = (-1) then ((P_X2_leftBySaying z_19.2.1 z_19.2.2.2.2.2.2.2.1 z_19.2.2.2.2.2.2.2.2).bind fun (z_41 : Int32) => (P_X2_signsRead z_19.2.2.1).bind fun (z_48 : Int32) => (P_X0_addSaying z_41 z_48 (nI ns) L0 S0).bind fun (z_51 : Int32 × AR × AR) => (P_X6_drop (nI n)).bind fun (z_58 : Int32 × Int32) => (some z_51.1).bind fun (z_66 : Int32) => some (z_66, z_58.2, z_51.1, z_51.2.1, z_51.2.2, z_19.2.1, z_19.2.2.1, z_19.2.2.2.1, z_19.2.2.2.2.1, z_19.2.2.2.2.2.1, z_19.2.2.2.2.2.2.1, z_19.2.2.2.2.2.2.2.1, z_19.2.2.2.2.2.2.2.2)) else some ((-10) - z_19.1, nI n, nI ns, L0, S0, z_19.2.1, z_19.2.2.1, z_19.2.2.2.1, z_19.2.2.2.2.1, z_19.2.2.2.2.2.1, z_19.2.2.2.2.2.2.1, z_19.2.2.2.2.2.2.2.1, z_19.2.2.2.2.2.2.2.2)) = some ((-10) - nI pp, nI n, nI ns, L0, S0, z2, z3, z4, z5, z6, z7, z8, z9) := by
        rw [e1, Option.bind_some, if_neg nm]
      exact ⟨_, _, _, _, _, _, _, _, _, _, _, _, _, _, _, _, _, _, _, _, _, _, _, _, _, _, cls, e2'.trans (sK_fault fp), hR⟩
