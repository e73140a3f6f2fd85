/-! images -/
theorem ccopy_2 {f g : AR} {K : AR → AR → Option (Int32 × Int32 × Int32 × AR × AR × AR)} : ∀ (m i e : Nat) (l s : AR), i + m = 8 → m < e → ∃ l' s', P_X0_copy_2 f g K e (nI i) l s = K l' s' ∧ (∀ j, j < i → l' j = l j ∧ s' j = s j) ∧ ∀ j, i ≤ j → j < 8 → l' j = f j ∧ s' j = g j := by
  intro m
  induction m with
  | zero =>
    intro i e l s hi he
    obtain ⟨e, rfl⟩ : ∃ q, e = q + 1 := ⟨e - 1, by omega⟩
    rw [P_X0_copy_2, if_pos (show (8 : Int32) ≤ nI i from nI_le (a := 8) (by omega) (by omega))]
    exact ⟨l, s, rfl, fun _ _ => ⟨rfl, rfl⟩, fun j h1 h2 => absurd h2 (by omega)⟩
  | succ m ih =>
    intro i e l s hi he
    obtain ⟨e, rfl⟩ : ∃ q, e = q + 1 := ⟨e - 1, by omega⟩
    rw [P_X0_copy_2, if_neg (show ¬ (8 : Int32) ≤ nI i from nI_ge (b := 8) (by omega) (by decide)), at_in _ (show i < 8 by omega) (by decide), Option.bind_some, put_in _ _ (show i < 8 by omega) (by decide), Option.bind_some, at_in _ (show i < 8 by omega) (by decide), Option.bind_some, put_in _ _ (show i < 8 by omega) (by decide), Option.bind_some, nI_1]
    obtain ⟨l', s', a1, a2, a3⟩ := ih (i + 1) e (upd l i (f i)) (upd s i (g i)) (by omega) (by omega)
    refine ⟨l', s', a1, fun j hj => ?_, fun j h1 h2 => ?_⟩
    · have := a2 j (by omega)
      rw [pk_un (by omega), pk_un (by omega)] at this
      exact this
    · by_cases q : j = i
      · have := a2 j (by omega)
        rw [q, pk_us, pk_us] at this
        rw [q]; exact this
      · exact a3 j (by omega) h2
theorem ccopy_48 {f : AR} {K : AR → Option (Int32 × Int32 × Int32 × AR × AR × AR)} : ∀ (m i e : Nat) (l : AR), i + m = 3 → m < e → ∃ l', P_X0_copy_48 f K e (nI i) l = K l' ∧ (∀ j, j < i → l' j = l j) ∧ ∀ j, i ≤ j → j < 3 → l' j = f j := by
  intro m
  induction m with
  | zero =>
    intro i e l hi he
    obtain ⟨e, rfl⟩ : ∃ q, e = q + 1 := ⟨e - 1, by omega⟩
    rw [P_X0_copy_48, if_pos (show (3 : Int32) ≤ nI i from nI_le (a := 3) (by omega) (by omega))]
    exact ⟨l, rfl, fun _ _ => rfl, fun j h1 h2 => absurd h2 (by omega)⟩
  | succ m ih =>
    intro i e l hi he
    obtain ⟨e, rfl⟩ : ∃ q, e = q + 1 := ⟨e - 1, by omega⟩
    rw [P_X0_copy_48, if_neg (show ¬ (3 : Int32) ≤ nI i from nI_ge (b := 3) (by omega) (by decide)), at_in _ (show i < 3 by omega) (by decide), Option.bind_some, put_in _ _ (show i < 3 by omega) (by decide), Option.bind_some, nI_1]
    obtain ⟨l', a1, a2, a3⟩ := ih (i + 1) e (upd l i (f i)) (by omega) (by omega)
    refine ⟨l', a1, fun j hj => ?_, fun j h1 h2 => ?_⟩
    · rw [a2 j (by omega), pk_un (by omega)]
    · by_cases q : j = i
      · rw [q, a2 i (by omega), pk_us]
      · exact a3 j (by omega) h2
theorem ccopy_eq (a b c s w : Int32) (f g h f' g' h' : AR) : ∃ cL cS cW, P_X0_copy a b c f g h s w f' g' h' = some (s, w, 1, cL, cS, cW) ∧ (∀ i, i < 8 → cL i = f' i ∧ cS i = g' i) ∧ ∀ i, i < 3 → cW i = h' i := by
  unfold P_X0_copy
  rw [jn]
  obtain ⟨cL, cS, a1, -, a3⟩ := ccopy_2 (f := f') (g := g') (K := fun l m => jn (fun (z : AR) => some (s, w, 1, l, m, z)) (fun k => P_X0_copy_48 h' k QF 0 h)) 8 0 QF f g (by decide) (by unfold QF; decide)
  have a1' : P_X0_copy_2 f' g' _ QF 0 f g = _ := a1
  rw [a1', jn]
  obtain ⟨cW, b1, -, b3⟩ := ccopy_48 (f := h') (K := fun z => some (s, w, 1, cL, cS, z)) 3 0 QF h (by decide) (by unfold QF; decide)
  have b1' : P_X0_copy_48 h' _ QF 0 h = _ := b1
  exact ⟨cL, cS, cW, b1', fun i hi => a3 i (Nat.zero_le _) hi, fun i hi => b3 i (Nat.zero_le _) hi⟩
theorem mcopy_26 {a b : Nat} {mL mS : AR} {K : AR → AR → Option (AR × AR × AR × AR × AR)} (ha : a < 3) (hb : b < 3) (hab : a ≠ b) : ∀ (m i e : Nat) (l s : AR), i + m = 8 → m < e → (∀ j, (j < 8 * b ∨ 8 * b + 8 ≤ j) → l j = mL j ∧ s j = mS j) → (∀ j, j < i → l (8 * b + j) = mL (8 * a + j) ∧ s (8 * b + j) = mS (8 * a + j)) → ∃ l' s', P_X11_copy_26 (nI a) (nI b) K e (nI i) l s = K l' s' ∧ (∀ j, (j < 8 * b ∨ 8 * b + 8 ≤ j) → l' j = mL j ∧ s' j = mS j) ∧ ∀ j, j < 8 → l' (8 * b + j) = mL (8 * a + j) ∧ s' (8 * b + j) = mS (8 * a + j) := by
  intro m
  induction m with
  | zero =>
    intro i e l s hi he h1 h2
    obtain ⟨e, rfl⟩ : ∃ q, e = q + 1 := ⟨e - 1, by omega⟩
    rw [P_X11_copy_26, if_pos (show (8 : Int32) ≤ nI i from nI_le (a := 8) (by omega) (by omega))]
    exact ⟨l, s, rfl, h1, fun j hj => h2 j (by omega)⟩
  | succ m ih =>
    intro i e l s hi he h1 h2
    obtain ⟨e, rfl⟩ : ∃ q, e = q + 1 := ⟨e - 1, by omega⟩
    have x1 : (8 * nI a) + nI i = nI (8 * a + i) := by rw [e8, pk_mul, nI_add]
    have x2 : (8 * nI b) + nI i = nI (8 * b + i) := by rw [e8, pk_mul, nI_add]
    rw [P_X11_copy_26, if_neg (show ¬ (8 : Int32) ≤ nI i from nI_ge (b := 8) (by omega) (by decide)), x1, x2, ck_in _ (show 8 * a + i < 24 by omega) (by decide), ck_in _ (show 8 * b + i < 24 by omega) (by decide), ck_in _ (show 8 * a + i < 24 by omega) (by decide), ck_in _ (show 8 * b + i < 24 by omega) (by decide), nI_clamp (show 8 * a + i < 2 ^ 31 by omega), nI_clamp (show 8 * b + i < 2 ^ 31 by omega), nI_1]
    refine ih (i + 1) e _ _ (by omega) (by omega) (fun j hj => ?_) (fun j hj => ?_)
    · rw [pk_un (by omega), pk_un (by omega)]; exact h1 j hj
    · by_cases q : j = i
      · rw [q, pk_us, pk_us]; exact h1 _ (by omega)
      · rw [pk_un (by omega), pk_un (by omega)]; exact h2 j (by omega)
theorem mcopy_84 {a b : Nat} {ms mws mw l s : AR} (ha : a < 3) (hb : b < 3) (hab : a ≠ b) : ∀ (m i e : Nat) (w : AR), i + m = 3 → m < e → (∀ j, (j < 3 * b ∨ 3 * b + 3 ≤ j) → w j = mw j) → (∀ j, j < i → w (3 * b + j) = mw (3 * a + j)) → ∃ w', P_X11_copy_84 (nI a) (nI b) ms mws l s e (nI i) w = some (upd ms b (ms a), l, s, upd mws b (mws a), w') ∧ (∀ j, (j < 3 * b ∨ 3 * b + 3 ≤ j) → w' j = mw j) ∧ ∀ j, j < 3 → w' (3 * b + j) = mw (3 * a + j) := by
  intro m
  induction m with
  | zero =>
    intro i e w hi he h1 h2
    obtain ⟨e, rfl⟩ : ∃ q, e = q + 1 := ⟨e - 1, by omega⟩
    rw [P_X11_copy_84, if_pos (show (3 : Int32) ≤ nI i from nI_le (a := 3) (by omega) (by omega)), nI_clamp (show a < 2 ^ 31 by omega), nI_clamp (show b < 2 ^ 31 by omega)]
    exact ⟨w, rfl, h1, fun j hj => h2 j (by omega)⟩
  | succ m ih =>
    intro i e w hi he h1 h2
    obtain ⟨e, rfl⟩ : ∃ q, e = q + 1 := ⟨e - 1, by omega⟩
    have x1 : (3 * nI a) + nI i = nI (3 * a + i) := by rw [e3, pk_mul, nI_add]
    have x2 : (3 * nI b) + nI i = nI (3 * b + i) := by rw [e3, pk_mul, nI_add]
    rw [P_X11_copy_84, if_neg (show ¬ (3 : Int32) ≤ nI i from nI_ge (b := 3) (by omega) (by decide)), x1, x2, ck_in _ (show 3 * a + i < 9 by omega) (by decide), ck_in _ (show 3 * b + i < 9 by omega) (by decide), nI_clamp (show 3 * a + i < 2 ^ 31 by omega), nI_clamp (show 3 * b + i < 2 ^ 31 by omega), nI_1]
    refine ih (i + 1) e _ (by omega) (by omega) (fun j hj => ?_) (fun j hj => ?_)
    · rw [pk_un (by omega)]; exact h1 j hj
    · by_cases q : j = i
      · rw [q, pk_us]; exact h1 _ (by omega)
      · rw [pk_un (by omega)]; exact h2 j (by omega)
theorem mcopy_eq {a b : Nat} (ha : a < 3) (hb : b < 3) (hab : a ≠ b) (ms mL mS mws mw : AR) : ∃ mL' mS' mw', P_X11_copy (nI a) (nI b) ms mL mS mws mw = some (upd ms b (ms a), mL', mS', upd mws b (mws a), mw') ∧ (∀ j, (j < 8 * b ∨ 8 * b + 8 ≤ j) → mL' j = mL j ∧ mS' j = mS j) ∧ (∀ j, j < 8 → mL' (8 * b + j) = mL (8 * a + j) ∧ mS' (8 * b + j) = mS (8 * a + j)) ∧ (∀ j, (j < 3 * b ∨ 3 * b + 3 ≤ j) → mw' j = mw j) ∧ ∀ j, j < 3 → mw' (3 * b + j) = mw (3 * a + j) := by
  unfold P_X11_copy
  rw [ck_in _ ha (by decide), ck_in _ hb (by decide), ck_in _ ha (by decide), ck_in _ hb (by decide), jn]
  obtain ⟨l', s', a1, a2, a3⟩ := mcopy_26 (K := fun l s => P_X11_copy_84 (nI a) (nI b) ms mws l s QF 0 mw) (mL := mL) (mS := mS) ha hb hab 8 0 QF mL mS (by decide) (by unfold QF; decide) (fun _ _ => ⟨rfl, rfl⟩) (fun j hj => absurd hj (Nat.not_lt_zero j))
  have a1' : P_X11_copy_26 (nI a) (nI b) _ QF 0 mL mS = _ := a1
  rw [a1']
  obtain ⟨w', b1, b2, b3⟩ := mcopy_84 (ms := ms) (mws := mws) (mw := mw) (l := l') (s := s') ha hb hab 3 0 QF mw (by decide) (by unfold QF; decide) (fun _ _ => rfl) (fun j hj => absurd hj (Nat.not_lt_zero j))
  exact ⟨l', s', w', b1, a2, a3, b2, b3⟩
theorem KE_copy {W a b : Nat} {cs cw : Int32} {fL fS fW cL cS cW ms mL mS mws mw ms' mL' mS' mws' mw' : AR} {ns : Nat} {sl : Nat → Nat} {sn : AR} {nw : Nat} {wl : Nat → Nat} (h : KE W a cs cw fL fS fW ms mL mS mws mw ns sl sn nw wl) (c1 : ∀ i, i < 8 → cL i = fL i ∧ cS i = fS i) (c2 : ∀ i, i < 3 → cW i = fW i) (h1 : ms' b = ms a) (h2 : mws' b = mws a) (h3 : ∀ i, i < 8 → mL' (8 * b + i) = mL (8 * a + i) ∧ mS' (8 * b + i) = mS (8 * a + i)) (h5 : ∀ i, i < 3 → mw' (3 * b + i) = mw (3 * a + i)) : KE W b cs cw cL cS cW ms' mL' mS' mws' mw' ns sl sn nw wl := by
  obtain ⟨a1, a2, a3, a4, a5, a6, a7, a8⟩ := h
  refine ⟨a1, a2, a3, a4, h1.trans a5, h2.trans a6, fun i hi => ?_, fun i hi => ?_⟩
  · obtain ⟨b1, b2, b3, b4, b5⟩ := a7 i hi
    exact ⟨(c1 i (by omega)).1.trans b1, b2, (c1 i (by omega)).2.trans b3, (h3 i (by omega)).1.trans b4, (h3 i (by omega)).2.trans b5⟩
  · obtain ⟨b1, b2, b3⟩ := a8 i hi
    exact ⟨(c2 i (by omega)).trans b1, b2, (h5 i (by omega)).trans b3⟩
theorem keep_R {me : Int32} {tr : Int64} {sz : Int32} {tB : AR} {ch wo : Int32} {sv sf : AR} {s0 w0 g0 : Int32} {L0 S0 W0 : AR} {s1 w1 g1 : Int32} {L1 S1 W1 : AR} {s2 w2 g2 : Int32} {L2 S2 W2 : AR} {ll : AR} {sg sm kn : Int32} {mtr : Int64} {mt mch mwo : Int32} {mx mv ms mL mS mws mw mk : AR} (h : RR me tr sz tB ch wo sv sf s0 w0 g0 L0 S0 W0 s1 w1 g1 L1 S1 W1 s2 w2 g2 L2 S2 W2 ll sg sm kn mtr mt mch mwo mx mv ms mL mS mws mw mk) (p : Int32) : ∃ r s1' w1' g1' L1' S1' W1' s2' w2' g2' L2' S2' W2' ms' mL' mS' mws' mw' mk', P_X10_keep p s0 w0 L0 S0 W0 s1 w1 g1 L1 S1 W1 s2 w2 g2 L2 S2 W2 = some (r, s1', w1', g1', L1', S1', W1', s2', w2', g2', L2', S2', W2') ∧ P_X11_keep p ms mL mS mws mw mk = some (r, ms', mL', mS', mws', mw', mk') ∧ RR me tr sz tB ch wo sv sf s0 w0 g0 L0 S0 W0 s1' w1' g1' L1' S1' W1' s2' w2' g2' L2' S2' W2' ll sg sm kn mtr mt mch mwo mx mv ms' mL' mS' mws' mw' mk' := by
  have hR := h
  obtain ⟨n, bb, k, vs, W, ns, sl, sn, nw, wl, rfl, rfl, hT, rfl, rfl, rfl, rfl, hC, hM, hK, hI1, hI2, htr, hme, hkn⟩ := h
  obtain ⟨hw1, hw2⟩ := KE_WD hK
  have hK' := hK
  obtain ⟨rfl, rfl, a3, a4, a5, a6, a7, a8⟩ := hK'
  have h9 := hC.1.le
  have hS : SPW k vs W nw wl sv sf W0 mv mws mw := ⟨hC, hM, a6, hw1, hw2⟩
  have hf : ∀ j, j < ns → L0 j = nI (sl j) := fun j hj => (a7 j hj).1
  have hg : ∀ j, j < ns → mL j = nI (sl j) := fun j hj => by have := (a7 j hj).2.2.2.1; rwa [show 8 * 0 + j = j by omega] at this
  have hg2 : ∀ j, j < ns → mS j = sn j := fun j hj => by have := (a7 j hj).2.2.2.2; rwa [show 8 * 0 + j = j by omega] at this
  unfold P_X10_keep P_X11_keep
  rcases one_cases p with ⟨c, hc, rfl⟩ | hq
  · rw [bt1 hc, in01 hc, Option.bind_some, if_neg one_ne]
    have e1 : 1 + nI c = nI (1 + c) := nI_add 1 c
    obtain ⟨mL', mS', mw', m1, m2, m3, m4, m5⟩ := mcopy_eq (a := 0) (b := 1 + c) (by decide) (by omega) (by omega) ms mL mS mws mw
    have m1' : P_X11_copy 0 (nI (1 + c)) ms mL mS mws mw = _ := m1
    have kb : KE W 0 (nI ns) (nI nw) L0 S0 W0 (upd ms (1 + c) (ms 0)) mL' mS' (upd mws (1 + c) (mws 0)) mw' ns sl sn nw wl := KE_congr hK (pk_un (by omega)) (pk_un (by omega)) (fun i hi => (m2 _ (by omega)).1) (fun i hi => (m2 _ (by omega)).2) (fun i hi => m4 _ (by omega))
    have ans : upd ms (1 + c) (ms 0) 0 = nI ns := by rw [pk_un (by omega), a5]
    rw [e1, m1', Option.bind_some, ck_in _ (show c < 2 by omega) (by decide), ck0 _ (by decide) (by decide), cl0, nI_clamp (show c < 2 ^ 31 by omega)]
    unfold P_X0_sayings
    rcases (show c = 0 ∨ c = 1 by omega) with rfl | rfl
    · obtain ⟨cL, cS, cW, x1, x2, x3⟩ := ccopy_eq s1 w1 g1 (nI ns) (nI nw) L1 S1 W1 L0 S0 W0
      rw [if_pos (show nI 0 = 0 from rfl), x1, Option.bind_some, Option.bind_some]
      refine ⟨nI ns, nI ns, nI nw, 1, cL, cS, cW, s2, w2, g2, L2, S2, W2, upd ms 1 (ms 0), mL', mS', upd mws 1 (mws 0), mw', upd mk 0 1, rfl, ?_, ?_⟩
      · exact congrArg (fun z => some (z, upd ms 1 (ms 0), mL', mS', upd mws 1 (mws 0), mw', upd mk 0 1)) ans
      · refine ⟨n, bb, k, vs, W, ns, sl, sn, nw, wl, rfl, rfl, hT, rfl, rfl, rfl, rfl, hC, hM, kb, Or.inr ⟨rfl, pk_us, ns, sl, sn, nw, wl, KE_copy (a := 0) hK x2 x3 pk_us pk_us m3 m5⟩, ?_, htr, hme, hkn⟩
        rw [pk_un (show (1 : Nat) ≠ 0 by decide)]
        exact IM_congr hI2 (pk_un (by decide)) (pk_un (by decide)) (fun i hi => (m2 _ (by omega)).1) (fun i hi => (m2 _ (by omega)).2) (fun i hi => m4 _ (by omega))
    · obtain ⟨cL, cS, cW, x1, x2, x3⟩ := ccopy_eq s2 w2 g2 (nI ns) (nI nw) L2 S2 W2 L0 S0 W0
      rw [if_neg (show ¬ nI 1 = 0 by decide), x1, Option.bind_some, Option.bind_some]
      refine ⟨nI ns, s1, w1, g1, L1, S1, W1, nI ns, nI nw, 1, cL, cS, cW, upd ms 2 (ms 0), mL', mS', upd mws 2 (mws 0), mw', upd mk 1 1, rfl, ?_, ?_⟩
      · exact congrArg (fun z => some (z, upd ms 2 (ms 0), mL', mS', upd mws 2 (mws 0), mw', upd mk 1 1)) ans
      · refine ⟨n, bb, k, vs, W, ns, sl, sn, nw, wl, rfl, rfl, hT, rfl, rfl, rfl, rfl, hC, hM, kb, ?_, Or.inr ⟨rfl, pk_us, ns, sl, sn, nw, wl, KE_copy (a := 0) hK x2 x3 pk_us pk_us m3 m5⟩, htr, hme, hkn⟩
        rw [pk_un (show (0 : Nat) ≠ 1 by decide)]
        exact IM_congr hI1 (pk_un (by decide)) (pk_un (by decide)) (fun i hi => (m2 _ (by omega)).1) (fun i hi => (m2 _ (by omega)).2) (fun i hi => m4 _ (by omega))
  · rw [bt1_out hq, in_out hq, Option.bind_some, if_pos rfl]
    exact ⟨_, _, _, _, _, _, _, _, _, _, _, _, _, _, _, _, _, _, _, rfl, rfl, hR⟩
theorem back_R {me : Int32} {tr : Int64} {sz : Int32} {tB : AR} {ch wo : Int32} {sv sf : AR} {s0 w0 g0 : Int32} {L0 S0 W0 : AR} {s1 w1 g1 : Int32} {L1 S1 W1 : AR} {s2 w2 g2 : Int32} {L2 S2 W2 : AR} {ll : AR} {sg sm kn : Int32} {mtr : Int64} {mt mch mwo : Int32} {mx mv ms mL mS mws mw mk : AR} (h : RR me tr sz tB ch wo sv sf s0 w0 g0 L0 S0 W0 s1 w1 g1 L1 S1 W1 s2 w2 g2 L2 S2 W2 ll sg sm kn mtr mt mch mwo mx mv ms mL mS mws mw mk) (p : Int32) : ∃ r me' s0' w0' g0' L0' S0' W0' kn' ms' mL' mS' mws' mw', P_X10_back p me s0 w0 g0 L0 S0 W0 s1 w1 g1 L1 S1 W1 s2 w2 g2 L2 S2 W2 kn = some (r, me', s0', w0', g0', L0', S0', W0', kn') ∧ P_X11_back p ms mL mS mws mw mk = some (r, ms', mL', mS', mws', mw') ∧ RR me' tr sz tB ch wo sv sf s0' w0' g0' L0' S0' W0' s1 w1 g1 L1 S1 W1 s2 w2 g2 L2 S2 W2 ll sg sm kn' mtr mt mch mwo mx mv ms' mL' mS' mws' mw' mk := by
  have hR := h
  obtain ⟨n, bb, k, vs, W, ns, sl, sn, nw, wl, rfl, rfl, hT, rfl, rfl, rfl, rfl, hC, hM, hK, hI1, hI2, htr, hme, hkn⟩ := h
  obtain ⟨hw1, hw2⟩ := KE_WD hK
  have hK' := hK
  obtain ⟨rfl, rfl, a3, a4, a5, a6, a7, a8⟩ := hK'
  have h9 := hC.1.le
  have hS : SPW k vs W nw wl sv sf W0 mv mws mw := ⟨hC, hM, a6, hw1, hw2⟩
  have hf : ∀ j, j < ns → L0 j = nI (sl j) := fun j hj => (a7 j hj).1
  have hg : ∀ j, j < ns → mL j = nI (sl j) := fun j hj => by have := (a7 j hj).2.2.2.1; rwa [show 8 * 0 + j = j by omega] at this
  have hg2 : ∀ j, j < ns → mS j = sn j := fun j hj => by have := (a7 j hj).2.2.2.2; rwa [show 8 * 0 + j = j by omega] at this
  unfold P_X10_back P_X11_back P_X0_isFilled
  rcases one_cases p with ⟨c, hc, rfl⟩ | hq
  · rw [bt1 hc, in01 hc, Option.bind_some, if_neg one_ne, ck_in _ (show c < 2 by omega) (by decide), nI_clamp (show c < 2 ^ 31 by omega)]
    have e1 : 1 + nI c = nI (1 + c) := nI_add 1 c
    obtain ⟨mL', mS', mw', m1, m2, m3, m4, m5⟩ := mcopy_eq (a := 1 + c) (b := 0) (by omega) (by decide) (by omega) ms mL mS mws mw
    have m1' : P_X11_copy (nI (1 + c)) 0 ms mL mS mws mw = _ := m1
    have k1 : IM W 1 s1 w1 g1 L1 S1 W1 (upd ms 0 (ms (1 + c))) mL' mS' (upd mws 0 (mws (1 + c))) mw' (mk 0) := IM_congr hI1 (pk_un (by decide)) (pk_un (by decide)) (fun i hi => (m2 _ (by omega)).1) (fun i hi => (m2 _ (by omega)).2) (fun i hi => m4 _ (by omega))
    have k2 : IM W 2 s2 w2 g2 L2 S2 W2 (upd ms 0 (ms (1 + c))) mL' mS' (upd mws 0 (mws (1 + c))) mw' (mk 1) := IM_congr hI2 (pk_un (by decide)) (pk_un (by decide)) (fun i hi => (m2 _ (by omega)).1) (fun i hi => (m2 _ (by omega)).2) (fun i hi => m4 _ (by omega))
    rcases (show c = 0 ∨ c = 1 by omega) with rfl | rfl
    · have cg : cz g1 (some g1) = some g1 := by rcases hI1 with ⟨y, -⟩ | ⟨y, -⟩ <;> rw [y] <;> rfl
      rw [if_pos (show nI 0 = 0 from rfl), cg, Option.bind_some]
      rcases hI1 with ⟨y1, y2⟩ | ⟨y1, y2, ns', sl', sn', nw', wl', hk⟩
      · rw [if_pos y1, if_pos y2]
        exact ⟨_, _, _, _, _, _, _, _, _, _, _, _, _, _, rfl, rfl, hR⟩
      · obtain ⟨cL, cS, cW, x1, x2, x3⟩ := ccopy_eq (nI ns) (nI nw) g0 s1 w1 L0 S0 W0 L1 S1 W1
        have kk := hk
        obtain ⟨b1, b2, b3, b4, b5, b6, b7, b8⟩ := kk
        rw [if_neg (by rw [y1]; exact one_ne), if_neg (by rw [y2]; exact one_ne), x1, e1, m1', Option.bind_some, Option.bind_some, ck0 _ (by decide) (by decide), cl0]
        refine ⟨s1, 0, s1, w1, 1, cL, cS, cW, 0, upd ms 0 (ms 1), mL', mS', upd mws 0 (mws 1), mw', rfl, ?_, ?_⟩
        · exact congrArg (fun z => some (z, upd ms 0 (ms 1), mL', mS', upd mws 0 (mws 1), mw')) (show upd ms 0 (ms 1) 0 = s1 from pk_us.trans (b5.trans b1.symm))
        · exact ⟨n, bb, k, vs, W, ns', sl', sn', nw', wl', rfl, rfl, hT, rfl, rfl, rfl, rfl, hC, hM, KE_copy (a := 1) (b := 0) hk x2 x3 pk_us pk_us m3 m5, k1, k2, htr, Or.inl rfl, Or.inl rfl⟩
    · have cg : cz g2 (some g2) = some g2 := by rcases hI2 with ⟨y, -⟩ | ⟨y, -⟩ <;> rw [y] <;> rfl
      rw [if_neg (show ¬ nI 1 = 0 by decide), cg, Option.bind_some]
      rcases hI2 with ⟨y1, y2⟩ | ⟨y1, y2, ns', sl', sn', nw', wl', hk⟩
      · rw [if_pos y1, if_pos y2]
        exact ⟨_, _, _, _, _, _, _, _, _, _, _, _, _, _, rfl, rfl, hR⟩
      · obtain ⟨cL, cS, cW, x1, x2, x3⟩ := ccopy_eq (nI ns) (nI nw) g0 s2 w2 L0 S0 W0 L2 S2 W2
        have kk := hk
        obtain ⟨b1, b2, b3, b4, b5, b6, b7, b8⟩ := kk
        rw [if_neg (by rw [y1]; exact one_ne), if_neg (by rw [y2]; exact one_ne), x1, e1, m1', Option.bind_some, Option.bind_some, ck0 _ (by decide) (by decide), cl0]
        refine ⟨s2, 0, s2, w2, 1, cL, cS, cW, 0, upd ms 0 (ms 2), mL', mS', upd mws 0 (mws 2), mw', rfl, ?_, ?_⟩
        · exact congrArg (fun z => some (z, upd ms 0 (ms 2), mL', mS', upd mws 0 (mws 2), mw')) (show upd ms 0 (ms 2) 0 = s2 from pk_us.trans (b5.trans b1.symm))
        · exact ⟨n, bb, k, vs, W, ns', sl', sn', nw', wl', rfl, rfl, hT, rfl, rfl, rfl, rfl, hC, hM, KE_copy (a := 2) (b := 0) hk x2 x3 pk_us pk_us m3 m5, k1, k2, htr, Or.inl rfl, Or.inl rfl⟩
  · rw [bt1_out hq, in_out hq, Option.bind_some, if_pos rfl]
    exact ⟨_, _, _, _, _, _, _, _, _, _, _, _, _, _, rfl, rfl, hR⟩
