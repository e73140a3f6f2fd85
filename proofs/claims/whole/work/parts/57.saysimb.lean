/-! behind a factor, both -/
theorem isSort {n q p s : Nat} {fB : AR} {kd v : Int32} (h : TKC n fB q p kd s v) : P_X7_is 0 kd = some (bI (s == 9)) ∧ P_X7_is 38 kd = some (bI (s == 6)) ∧ P_X7_is 124 kd = some (bI (s == 5)) ∧ P_X7_is 41 kd = some (bI (s == 8)) := ⟨h.1, h.2.2.2.1, h.2.2.1, h.2.2.2.2.2.1⟩
theorem sort_ne {s a : Nat} (h : s ≠ a) (hs : s ≤ 10) (ha : a ≤ 10) : ¬ nI s = nI a := fun z => h ((nI_eq (by omega) (by omega)).mp z)
theorem bI_no {s a : Nat} (h : s ≠ a) : bI (s == a) = 0 := by rw [beq_eq_false_iff_ne.mpr h]; rfl
theorem bI_yes {s a : Nat} (h : s = a) : ¬ bI (s == a) = 0 := by rw [h, beq_self_eq_true]; decide
theorem close_out {n a st so va d : Int32} {fm sm ev : AR} {e : Nat} (h : so = 8 → d ≤ 0) : P_X11_close_0 n (-9) fm sm (e + 1) a st so va d ev = some (a, st, so, va, d, ev) := by
  rw [P_X11_close_0, if_pos rfl]
  by_cases g : so = 8
  · rw [if_pos g, if_pos (h g)]
  · rw [if_neg g]
theorem close_in {n i q p s d e : Nat} {st va v : Int32} {fB fm sm ev : AR} (hd : d + 1 < 10) (hS : STEP n fB fm i q p s v) : P_X11_close_0 (nI n) (-9) fm sm (e + 1) (nI i) st 8 va (nI (d + 1)) ev = P_X11_close_0 (nI n) (-9) fm sm e (nI q) (nI p) (nI s) v (nI d) (upd ev d (ev d &&& (sm (d + 1) ||| ev (d + 1)))) := by
  obtain ⟨kd, -, h2, -⟩ := hS
  rw [P_X11_close_0, if_pos rfl, if_pos rfl, if_neg (nI_nle (by omega) (by omega)), nI_pred, ck_in _ hd (by decide), ck_in _ hd (by decide), ck_in _ (show d < 10 by omega) (by decide), ck_in _ (show d < 10 by omega) (by decide), h2, Option.bind_some, nI_clamp (show d < 2 ^ 31 by omega), nI_clamp (show d + 1 < 2 ^ 31 by omega)]
theorem stepB {n k W nw i : Nat} {b : Nat → Nat} {vs : Nat → Nat} {fB fm fv fl fw mv mws mw : AR} {K : KS9} (hT : TX n b fB fm) (hC : CT k vs W fv fl) (ihA : ∀ j, i < j → PA n k W nw fB fm fv fl fw mv mws mw K j) (ihB : ∀ j, i < j → PB n k W nw fB fm fv fl fw mv mws mw K j) : PB n k W nw fB fm fv fl fw mv mws mw K i := by
  intro t d q p s f g e v mm p0 k0 tl fc sm ev ht hd hA hS hf hg he
  have h200 := hT.1
  have h9 := hC.1.le
  obtain ⟨f, rfl⟩ : ∃ q, f = q + 1 := ⟨f - 1, by omega⟩
  obtain ⟨g, rfl⟩ : ∃ q, g = q + 1 := ⟨g - 1, by omega⟩
  obtain ⟨e, rfl⟩ : ∃ q, e = q + 1 := ⟨e - 1, by omega⟩
  obtain ⟨kd, u1, -, tk, ip, pq, qn, lt9, s10⟩ := hS
  obtain ⟨t9, t38, t124, t41⟩ := isSort tk
  clear tk
  have fp : ¬ nI p = -9 := n9_ne (by omega)
  rw [P_X2_faultOfSaying_23, if_neg (show ¬ (200 : Int32) < nI t from nI_nlt (a := 200) (by omega) (by decide)), u1, Option.bind_some, show P_X7_is 0 (nI q, nI p, kd).2.2 = _ from t9, Option.bind_some, jn, jn, if_pos rfl, if_pos rfl]
  unfold P_X2_readBehindFactor
  rw [show P_X7_is 38 (nI q, nI p, kd).2.2 = _ from t38, Option.bind_some, show P_X7_is 124 (nI q, nI p, kd).2.2 = _ from t124, Option.bind_some, show P_X7_is 41 (nI q, nI p, kd).2.2 = _ from t41, Option.bind_some]
  have bad : (nI s = 9 → ¬ nI d ≤ 0) → s ≠ 5 → s ≠ 6 → (nI s = 8 → nI d ≤ 0) → OKS (kq (nI d) mm 0 (nI q) (nI p) kd tl fc) ((P_X11_close_0 (nI n) (-9) fm sm (e + 1) (nI q) (nI p) (nI s) v (nI d) ev).bind fun z => sT (nI n) (nI k) (nI W) fm mv mws mw K (g + 1) 1 0 (z.1, z.2.1, z.2.2.1, z.2.2.2.1, -9, z.2.2.2.2.1, mm, sm, z.2.2.2.2.2)) K W := by
    intro b9 b5 b6 b8
    rw [close_out b8, Option.bind_some, sT_bad fp b9 (sort_ne b5 s10 (by decide)) (sort_ne b6 s10 (by decide)), kq_eq]
    exact Or.inr ⟨p, _, _, _, _, _, _, _, _, by omega, rfl, _, _, _, _, _, _, _, _, rfl⟩
  have nd : d ≠ 0 → ¬ nI d ≤ 0 := fun z => nI_nle (by omega) (by omega)
  by_cases e9 : s = 9
  · rw [if_neg (bI_yes e9)]
    by_cases d0 : d = 0
    · subst d0
      rw [if_pos (show nI 0 = 0 from rfl), e9, close_out (fun z => absurd z (by decide)), Option.bind_some]
      obtain ⟨a, c, g1, g2, g3, g4, g5, g6⟩ := hA 0 (Nat.le_refl _)
      exact Or.inl ⟨_, _, _, _, _, _, _, _, _, _, _, _, a, c, rfl, sT_end, g1, g2, g3, g4, g5, g6⟩
    · rw [if_neg (show ¬ nI d = 0 from nI_ne0 (by omega) (by omega)), if_pos (bI_no (show s ≠ 6 by omega)), if_pos (bI_no (show s ≠ 5 by omega)), if_pos (bI_no (show s ≠ 8 by omega))]
      exact bad (fun _ => nd d0) (by omega) (by omega) (fun z => absurd z (sort_ne (show s ≠ 8 by omega) s10 (by decide)))
  · have hlt := lt9 e9
    obtain ⟨q2, p2, s2, v2, S2⟩ := step_both hT qn
    rw [if_pos (bI_no e9)]
    by_cases e6 : s = 6
    · rw [if_neg (bI_yes e6), close_out (fun z => absurd z (by rw [e6]; decide)), Option.bind_some, Option.bind_some, e6]
      have fin := ihA q (by omega) (t + 1) d q2 p2 s2 f (g + 1) v2 mm (nI p) kd tl fc sm ev (by omega) hd hA S2 (by omega) (by omega)
      rw [← nI_1 t] at fin
      show OKS (if (1 : Int32) = 0 then _ else _) (sT (nI n) (nI k) (nI W) fm mv mws mw K (g + 1) 1 0 (nI q, nI p, 6, v, -9, nI d, mm, sm, ev)) K W
      rw [if_neg one_ne, sT_and S2]
      exact fin
    · rw [if_pos (bI_no e6)]
      by_cases e5 : s = 5
      · rw [if_neg (bI_yes e5), close_out (fun z => absurd z (by rw [e5]; decide)), Option.bind_some, e5]
        unfold P_X2_levelLeft
        rw [at_in _ (show d < 10 by omega) (by decide), Option.bind_some, at_in _ (show d < 10 by omega) (by decide), Option.bind_some, Option.bind_some, put_in _ _ (show d < 10 by omega) (by decide), Option.bind_some, all_eq h9, Option.bind_some, put_in _ _ (show d < 10 by omega) (by decide), Option.bind_some, Option.bind_some]
        have fin := ihA q (by omega) (t + 1) d q2 p2 s2 f (g + 1) v2 mm (nI p) kd _ _ _ _ (by omega) hd (AA_or hA) S2 (by omega) (by omega)
        rw [← nI_1 t] at fin
        show OKS (if (1 : Int32) = 0 then _ else _) (sT (nI n) (nI k) (nI W) fm mv mws mw K (g + 1) 1 0 (nI q, nI p, 5, v, -9, nI d, mm, sm, ev)) K W
        rw [if_neg one_ne, sT_or (show d < 10 by omega) h9 S2]
        exact fin
      · rw [if_pos (bI_no e5)]
        by_cases e8 : s = 8
        · rw [if_neg (bI_yes e8)]
          by_cases d0 : d = 0
          · rw [if_pos (show nI d ≤ 0 by rw [d0]; decide)]
            exact bad (fun z => absurd z (sort_ne e9 s10 (by decide))) e5 e6 (fun _ => by rw [d0]; decide)
          · obtain ⟨d, rfl⟩ : ∃ x, d = x + 1 := ⟨d - 1, by omega⟩
            rw [if_neg (nd d0), e8]
            unfold P_X2_levelLeft P_X2_addFactor
            rw [at_in _ (show d + 1 < 10 by omega) (by decide), Option.bind_some, at_in _ (show d + 1 < 10 by omega) (by decide), Option.bind_some, Option.bind_some, nI_pred, at_in _ (show d < 10 by omega) (by decide), Option.bind_some, put_in _ _ (show d < 10 by omega) (by decide), Option.bind_some, Option.bind_some, Option.bind_some]
            have fin := ihB q (by omega) (t + 1) d q2 p2 s2 f (g + 1) e v2 mm (nI p) kd _ _ _ _ (by omega) (by omega) (AA_pop hA) S2 (by omega) (by omega) (by omega)
            rw [← nI_1 t] at fin
            show OKS (if (1 : Int32) = 0 then _ else _) (Option.bind (P_X11_close_0 (nI n) (-9) fm sm (e + 1) (nI q) (nI p) 8 v (nI (d + 1)) ev) _) K W
            rw [if_neg one_ne, close_in (show d + 1 < 10 by omega) S2]
            exact fin
        · rw [if_pos (bI_no e8)]
          exact bad (fun z => absurd z (sort_ne e9 s10 (by decide))) e5 e6 (fun z => absurd z (sort_ne e8 s10 (by decide)))
theorem say_sim {n k W nw : Nat} {b : Nat → Nat} {vs wl : Nat → Nat} {fB fm fv fl fw mv mws mw : AR} {K : KS9} (hT : TX n b fB fm) (hC : CT k vs W fv fl) (hM : MT k vs W mv) (h0 : mws 0 = nI nw) (hw : WD W nw wl fw) (hx : WD W nw wl mw) : ∀ r i, 200 - i = r → PA n k W nw fB fm fv fl fw mv mws mw K i ∧ PB n k W nw fB fm fv fl fw mv mws mw K i := by
  intro r
  induction r using Nat.strongRecOn with
  | ind r ih =>
    intro i hr
    by_cases hi : i ≤ 200
    · have hA : ∀ j, i < j → PA n k W nw fB fm fv fl fw mv mws mw K j := by
        intro j hj
        by_cases q : j ≤ 200
        · exact (ih (200 - j) (by omega) j rfl).1
        · intro t d q p s f g v mm p0 k0 tl fc sm ev ht hd hA hS
          obtain ⟨kd, -, -, -, h1, h2, h3, -⟩ := hS
          have := hT.1
          omega
      have hB : ∀ j, i < j → PB n k W nw fB fm fv fl fw mv mws mw K j := by
        intro j hj
        by_cases q : j ≤ 200
        · exact (ih (200 - j) (by omega) j rfl).2
        · intro t d q p s f g e v mm p0 k0 tl fc sm ev ht hd hA hS
          obtain ⟨kd, -, -, -, h1, h2, h3, -⟩ := hS
          have := hT.1
          omega
      exact ⟨stepA hT hC hM h0 hw hx hA hB, stepB hT hC hA hB⟩
    · refine ⟨?_, ?_⟩
      · intro t d q p s f g v mm p0 k0 tl fc sm ev ht hd hA hS
        obtain ⟨kd, -, -, -, h1, h2, h3, -⟩ := hS
        have := hT.1
        omega
      · intro t d q p s f g e v mm p0 k0 tl fc sm ev ht hd hA hS
        obtain ⟨kd, -, -, -, h1, h2, h3, -⟩ := hS
        have := hT.1
        omega
