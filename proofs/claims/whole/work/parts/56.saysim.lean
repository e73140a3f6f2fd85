/-! THE TEXT as a SAYING, read by both -/
def AA (d W : Nat) (tl fc sm ev : AR) : Prop := ∀ j, j ≤ d → ∃ a e, a < 2 ^ W ∧ e < 2 ^ W ∧ tl j = nI a ∧ sm j = nI a ∧ fc j = nI e ∧ ev j = nI e
def kq : Int32 → Int32 → Int32 → Int32 → Int32 → Int32 → AR → AR → O9 := fun a b c d e f g h => (P_X7_place e).bind fun z => some (z, a, b, c, d, e, f, g, h)
theorem kq_eq (a b c d e f : Int32) (g h : AR) : kq a b c d e f g h = some (e, a, b, c, d, e, f, g, h) := rfl
def OKS (X : O9) (Y : OT) (K : KS9) (W : Nat) : Prop := (∃ (mm q p kd : Int32) (tl fc : AR) (a st so va : Int32) (sm ev : AR) (x y : Nat), X = some (-1, 0, mm, 0, q, p, kd, tl, fc) ∧ Y = K a st so va (-9) 0 mm sm ev ∧ x < 2 ^ W ∧ y < 2 ^ W ∧ tl 0 = nI x ∧ sm 0 = nI x ∧ fc 0 = nI y ∧ ev 0 = nI y) ∨ (∃ (pp : Nat) (z2 z3 z4 z5 z6 z7 : Int32) (z8 z9 : AR), pp ≤ 200 ∧ X = some (nI pp, z2, z3, z4, z5, z6, z7, z8, z9) ∧ ∃ (a st so va d mm : Int32) (sm ev : AR), Y = K a st so va (nI pp) d mm sm ev)
/-- the group that a letter names -/
def GR (k s : Nat) (v : Int32) (G : Nat) : Prop := (s = 2 ∧ G = 3) ∨ (s = 1 ∧ G < k ∧ v = nI G)
theorem groupOf_eq {k s : Nat} {v x : Int32} (hk : k ≤ 3) (h : lt3 s v x) : (∃ G, G ≤ 3 ∧ GR k s v G ∧ P_X5_groupOf x (nI k) = some (nI G)) ∨ (s ≠ 2 ∧ (s = 1 → nI k ≤ v) ∧ P_X5_groupOf x (nI k) = some (-1)) := by
  unfold P_X5_groupOf
  rcases h with ⟨h2, rfl⟩ | ⟨h1, c, hc, rfl, rfl⟩ | ⟨n1, n2, y, rfl, hy, y1, y2⟩
  · rw [if_pos rfl]
    exact Or.inl ⟨3, by decide, Or.inl ⟨h2, rfl⟩, rfl⟩
  · rw [if_neg (show ¬ nI (97 + c) = 119 from fun z => by have := (nI_eq (b := 119) (by omega) (by decide)).mp z; omega)]
    have e : nI (97 + c) - 97 = nI c := by
      show nI (97 + c) - nI 97 = nI c
      rw [pk_sub (by omega), Nat.add_sub_cancel_left]
    rw [e]
    by_cases g : c < k
    · rw [isChoice_in g (by omega), Option.bind_some, if_neg one_ne]
      exact Or.inl ⟨c, by omega, Or.inr ⟨h1, g, rfl⟩, rfl⟩
    · rw [isChoice_out (Or.inr (nI_le (by omega) (by omega))), Option.bind_some, if_pos rfl]
      exact Or.inr ⟨by omega, fun _ => nI_le (by omega) (by omega), rfl⟩
  · rw [if_neg (show ¬ nI y = 119 from fun z => y1 ((nI_eq (b := 119) (by omega) (by decide)).mp z))]
    have out : nI y - 97 < 0 ∨ nI k ≤ nI y - 97 := by
      rcases Nat.lt_or_ge y 97 with g | g
      · exact Or.inl (pk_sneg (b := 97) (by decide) g)
      · refine Or.inr ?_
        show nI k ≤ nI y - nI 97
        rw [pk_sub g]
        exact nI_le (by omega) (by omega)
    rw [isChoice_out out, Option.bind_some, if_pos rfl]
    exact Or.inr ⟨n2, fun z => absurd z n1, rfl⟩
theorem GR_ne {k s G : Nat} {v : Int32} (h : GR k s v G) (hk : k ≤ 3) : ¬ nI G = -1 := by
  rcases h with ⟨-, rfl⟩ | ⟨-, hG, rfl⟩
  · decide
  · exact v_ne1 (by omega)
theorem rf_no {n k W q p s mm' : Nat} {v mm d : Int32} {fm mv mws mw sm ev : AR} (hp : ¬ nI p = -9) (s7 : s ≠ 7) (hs : s ≤ 10) (n2 : s ≠ 2) (n1 : s = 1 → nI k ≤ v) : P_X11_readFactor (nI n) (nI k) (nI W) (nI q) (nI p) (nI s) v (-9) d mm fm mv mws mw sm ev = some (nI q, nI p, nI s, v, nI p, d, mm, sm, ev) := by
  rw [readFactor_unf, if_neg (show ¬ nI s = 7 from fun z => s7 ((nI_eq (b := 7) (by omega) (by decide)).mp z)), jn, if_neg (show ¬ nI s = 2 from fun z => n2 ((nI_eq (b := 2) (by omega) (by decide)).mp z))]
  show jn _ _ = _
  rw [jn, jn, if_pos rfl, jn]
  have fin : ((P_X11_due 0 (nI n) (nI q) (nI p) (nI s) v (-9) fm).bind (rF2 (nI n) (nI W) v d mm fm mv mws mw sm ev 0)) = some (nI q, nI p, nI s, v, nI p, d, mm, sm, ev) := by
    rw [due_no, Option.bind_some, rF2_fault hp]
  by_cases e : s = 1
  · rw [if_pos (show nI s = 1 by rw [e]; rfl), if_pos (n1 e)]
    exact fin
  · rw [if_neg (show ¬ nI s = 1 from fun z => e ((nI_eq (b := 1) (by omega) (by decide)).mp z))]
    exact fin
theorem rf_yes {n k W q p s q2 p2 s2 G : Nat} {v v2 mm d : Int32} {fB fm mv mws mw sm ev : AR} (hk : k ≤ 3) (hG : GR k s v G) (hS : STEP n fB fm q q2 p2 s2 v2) : P_X11_readFactor (nI n) (nI k) (nI W) (nI q) (nI p) (nI s) v (-9) d mm fm mv mws mw sm ev = rF2 (nI n) (nI W) v d mm fm mv mws mw sm ev (if s = 2 then 1 else 0) (v, nI q2, nI p2, nI s2, v2, -9) := by
  rw [readFactor_unf]
  rcases hG with ⟨rfl, -⟩ | ⟨rfl, hG, rfl⟩
  · rw [if_neg (show ¬ nI 2 = 7 by decide), jn, if_pos (show nI 2 = 2 from rfl), if_pos rfl]
    show jn _ _ = _
    rw [jn, jn, if_neg one_ne, due_yes hS, Option.bind_some]
  · rw [if_neg (show ¬ nI 1 = 7 by decide), jn, if_neg (show ¬ nI 1 = 2 by decide), if_neg (show ¬ (1 : Nat) = 2 by decide)]
    show jn _ _ = _
    rw [jn, jn, if_pos rfl, jn, if_pos (show nI 1 = 1 from rfl), if_neg (nI_ge hG (by omega)), due_yes hS, Option.bind_some]
theorem AA_open {d W : Nat} {tl fc sm ev : AR} (h : AA d W tl fc sm ev) : AA (d + 1) W (upd tl (d + 1) 0) (upd fc (d + 1) (nI (2 ^ W - 1))) (upd sm (d + 1) 0) (upd ev (d + 1) (nI (2 ^ W - 1))) := by
  intro j hj
  by_cases e : j = d + 1
  · rw [e, pk_us, pk_us, pk_us, pk_us]
    have := Nat.one_le_two_pow (n := W)
    exact ⟨0, 2 ^ W - 1, by omega, by omega, rfl, rfl, rfl, rfl⟩
  · rw [pk_un e, pk_un e, pk_un e, pk_un e]
    exact h j (by omega)
theorem AA_and {d W X : Nat} {tl fc sm ev : AR} (h : AA d W tl fc sm ev) (hX : X < 2 ^ W) : AA d W tl (upd fc d (fc d &&& nI X)) sm (upd ev d (ev d &&& nI X)) := by
  intro j hj
  obtain ⟨a, e, h1, h2, h3, h4, h5, h6⟩ := h j hj
  by_cases q : j = d
  · subst q
    rw [pk_us, pk_us, h5, h6, nx_and]
    exact ⟨a, e &&& X, h1, Nat.lt_of_le_of_lt Nat.and_le_left h2, h3, h4, rfl, rfl⟩
  · rw [pk_un q, pk_un q]
    exact ⟨a, e, h1, h2, h3, h4, h5, h6⟩
theorem AA_or {d W : Nat} {tl fc sm ev : AR} (h : AA d W tl fc sm ev) : AA d W (upd tl d (tl d ||| fc d)) (upd fc d (nI (2 ^ W - 1))) (upd sm d (sm d ||| ev d)) (upd ev d (nI (2 ^ W - 1))) := by
  intro j hj
  obtain ⟨a, e, h1, h2, h3, h4, h5, h6⟩ := h j hj
  by_cases q : j = d
  · subst q
    rw [pk_us, pk_us, pk_us, pk_us, h3, h4, h5, h6, nx_or]
    have := Nat.one_le_two_pow (n := W)
    exact ⟨a ||| e, 2 ^ W - 1, Nat.or_lt_two_pow h1 h2, by omega, rfl, rfl, rfl, rfl⟩
  · rw [pk_un q, pk_un q, pk_un q, pk_un q]
    exact ⟨a, e, h1, h2, h3, h4, h5, h6⟩
theorem AA_pop {d W : Nat} {tl fc sm ev : AR} (h : AA (d + 1) W tl fc sm ev) : AA d W tl (upd fc d (fc d &&& (tl (d + 1) ||| fc (d + 1)))) sm (upd ev d (ev d &&& (sm (d + 1) ||| ev (d + 1)))) := by
  obtain ⟨a', e', g1, g2, g3, g4, g5, g6⟩ := h (d + 1) (Nat.le_refl _)
  have := AA_and (d := d) (X := a' ||| e') (fun j hj => h j (by omega)) (Nat.or_lt_two_pow g1 g2)
  rw [g3, g4, g5, g6, nx_or]
  exact this
def PA (n k W nw : Nat) (fB fm fv fl fw mv mws mw : AR) (K : KS9) (i : Nat) : Prop := ∀ (t d q p s f g : Nat) (v mm p0 k0 : Int32) (tl fc sm ev : AR), t ≤ i → d ≤ 9 → AA d W tl fc sm ev → STEP n fB fm i q p s v → n - i + 2 < f → n - i + 2 < g → OKS (P_X2_faultOfSaying_23 (nI n) fB (nI k) (nI W) fv fl (nI nw) fw kq kq f (nI t) (nI d) mm 1 (nI i) p0 k0 tl fc) (P_X11_say_41 (nI n) (nI k) (nI W) fm mv mws mw K g 1 (nI q) (nI p) (nI s) v (-9) (nI d) mm sm ev) K W
def PB (n k W nw : Nat) (fB fm fv fl fw mv mws mw : AR) (K : KS9) (i : Nat) : Prop := ∀ (t d q p s f g e : Nat) (v mm p0 k0 : Int32) (tl fc sm ev : AR), t ≤ i → d ≤ 9 → AA d W tl fc sm ev → STEP n fB fm i q p s v → n - i + 2 < f → n - i + 2 < g → n - i + 2 < e → OKS (P_X2_faultOfSaying_23 (nI n) fB (nI k) (nI W) fv fl (nI nw) fw kq kq f (nI t) (nI d) mm 0 (nI i) p0 k0 tl fc) ((P_X11_close_0 (nI n) (-9) fm sm e (nI q) (nI p) (nI s) v (nI d) ev).bind fun z => sT (nI n) (nI k) (nI W) fm mv mws mw K g 1 0 (z.1, z.2.1, z.2.2.1, z.2.2.2.1, -9, z.2.2.2.2.1, mm, sm, z.2.2.2.2.2)) K W
theorem stepA {n k W nw i : Nat} {b : Nat → Nat} {vs wl : Nat → Nat} {fB fm fv fl fw mv mws mw : AR} {K : KS9} (hT : TX n b fB fm) (hC : CT k vs W fv fl) (hM : MT k vs W mv) (h0 : mws 0 = nI nw) (hw : WD W nw wl fw) (hx : WD W nw wl mw) (ihA : ∀ j, i < j → PA n k W nw fB fm fv fl fw mv mws mw K j) (ihB : ∀ j, i < j → PB n k W nw fB fm fv fl fw mv mws mw K j) : PA n k W nw fB fm fv fl fw mv mws mw K i := by
  intro t d q p s f g v mm p0 k0 tl fc sm ev ht hd hA hS hf hg
  have h200 := hT.1
  have h9 := hC.1.le
  have h3 := hC.1.k3
  obtain ⟨f, rfl⟩ : ∃ q, f = q + 1 := ⟨f - 1, by omega⟩
  obtain ⟨g, rfl⟩ : ∃ q, g = q + 2 := ⟨g - 2, by omega⟩
  obtain ⟨kd, u1, -, ⟨t9, -, -, -, t40, -, -, -, -, x, tL, tL3⟩, ip, pq, qn, lt9, s10⟩ := hS
  have fp : ¬ nI p = -9 := n9_ne (by omega)
  rw [P_X2_faultOfSaying_23, if_neg (show ¬ (200 : Int32) < nI t from nI_nlt (a := 200) (by omega) (by decide)), u1, Option.bind_some, show P_X7_is 0 (nI q, nI p, kd).2.2 = _ from t9, Option.bind_some, jn, jn, if_neg one_ne, if_neg one_ne, ite_self, say41_unf, if_pos rfl, if_neg one_ne, jn]
  unfold P_X2_readFactor
  rw [show P_X7_is 40 (nI q, nI p, kd).2.2 = _ from t40, Option.bind_some]
  by_cases s7 : s = 7
  · rw [if_neg (show ¬ bI (s == 7) = 0 by rw [s7]; decide), if_pos (show nI s = 7 by rw [s7]; rfl), readFactor_unf, if_pos (show nI s = 7 by rw [s7]; rfl), jn]
    by_cases d9 : d = 9
    · rw [if_pos (show nI d = 9 by rw [d9]; rfl), if_pos (show (9 : Int32) ≤ nI d by rw [d9]; decide), Option.bind_some]
      show OKS _ (Option.bind ((P_X11_due 0 (nI n) (nI q) (nI p) (nI s) v (-9) fm).bind _) _) K W
      rw [due_no, Option.bind_some, if_neg fp, Option.bind_some, sT_fault fp]
      exact Or.inr ⟨p, _, _, _, _, _, _, _, _, by omega, rfl, _, _, _, _, _, _, _, _, rfl⟩
    · obtain ⟨q2, p2, s2, v2, S2⟩ := step_both hT qn
      rw [if_neg (show ¬ nI d = 9 from fun z => d9 ((nI_eq (b := 9) (by omega) (by decide)).mp z)), if_neg (show ¬ (9 : Int32) ≤ nI d from nI_ge (b := 9) (by omega) (by decide))]
      unfold P_X2_openLevel
      rw [nI_1, put_in _ _ (show d + 1 < 10 by omega) (by decide), Option.bind_some, all_eq h9, Option.bind_some, put_in _ _ (show d + 1 < 10 by omega) (by decide), Option.bind_some, Option.bind_some, Option.bind_some]
      show OKS _ (Option.bind ((P_X11_due 1 (nI n) (nI q) (nI p) (nI s) v (-9) fm).bind _) _) K W
      rw [due_yes S2, Option.bind_some, if_pos rfl]
      unfold P_X11_open
      rw [nI_1, ck_in _ (show d + 1 < 10 by omega) (by decide), allSets_eq h9, Option.bind_some, ck_in _ (show d + 1 < 10 by omega) (by decide), Option.bind_some, Option.bind_some, sT_opens, nI_clamp (show d + 1 < 2 ^ 31 by omega)]
      have hlt := lt9 (by omega)
      have fin := ihA q (by omega) (t + 1) (d + 1) q2 p2 s2 f (g + 1) v2 mm (nI p) kd _ _ _ _ (by omega) (by omega) (AA_open hA) S2 (by omega) (by omega)
      show OKS (if (1 : Int32) = 0 then _ else _) _ K W
      rw [if_neg one_ne]
      exact fin
  · rw [if_pos (show bI (s == 7) = 0 by rw [beq_eq_false_iff_ne.mpr s7]; rfl), if_neg (show ¬ nI s = 7 from fun z => s7 ((nI_eq (b := 7) (by omega) (by decide)).mp z)), show P_X7_letter (nI q, nI p, kd).1 (nI q, nI p, kd).2.1 (nI q, nI p, kd).2.2 (nI n) fB = _ from tL, Option.bind_some]
    rcases groupOf_eq h3 tL3 with ⟨G, hG3, hG, gO⟩ | ⟨n2, n1, gO⟩
    · have hlt := lt9 (by rcases hG with ⟨e, -⟩ | ⟨e, -, -⟩ <;> omega)
      obtain ⟨q2, p2, s2, v2, S2⟩ := step_both hT qn
      have S2' := S2
      obtain ⟨kd2, y1, -, ⟨-, -, -, -, -, -, -, tN, tV, -⟩, ip2, pq2, qn2, lt92, s102⟩ := S2'
      have fp2 : ¬ nI p2 = -9 := n9_ne (by omega)
      have b0 : (if s = 2 then (1 : Int32) else 0) = 0 → ∀ K : O9, ck v 3 K = K ∧ mv v.toNatClampNeg = nI (gM k vs nw G) := by
        intro e K
        rcases hG with ⟨e2, -⟩ | ⟨e1, hGk, rfl⟩
        · rw [if_pos e2] at e; exact absurd e one_ne
        · rw [ck_in _ (by omega) (by decide), nI_clamp (by omega), hM.2 G (by omega), gM, if_neg (by omega), if_pos hGk]
          exact ⟨rfl, rfl⟩
      have b1 : ¬ (if s = 2 then (1 : Int32) else 0) = 0 → mws 0 = nI (gM k vs nw G) := by
        intro e
        rcases hG with ⟨-, rfl⟩ | ⟨e1, -, -⟩
        · rw [h0, gM, if_pos rfl]
        · rw [if_neg (by omega)] at e; exact absurd rfl e
      rw [gO, Option.bind_some, if_neg (GR_ne hG h3), show P_X7_step (nI q, nI p, kd).1 (nI q, nI p, kd).2.1 (nI q, nI p, kd).2.2 (nI n) fB = _ from y1 _ _, Option.bind_some, show P_X7_number (nI q2, nI p2, kd2).1 (nI q2, nI p2, kd2).2.1 (nI q2, nI p2, kd2).2.2 (nI n) fB = _ from tN, Option.bind_some, rf_yes h3 hG S2]
      have bad : (nI s2 = 3 → nI (gM k vs nw G) ≤ v2) → OKS (kq (nI d) mm 1 (nI q2) (nI p2) kd2 tl fc) ((rF2 (nI n) (nI W) v (nI d) mm fm mv mws mw sm ev (if s = 2 then 1 else 0) (v, nI q2, nI p2, nI s2, v2, -9)).bind (sT (nI n) (nI k) (nI W) fm mv mws mw K (g + 1) 1 0)) K W := by
        intro hb
        rw [rF2_bad fp2 b0 b1 hb, Option.bind_some, sT_fault fp2, kq_eq]
        exact Or.inr ⟨p2, _, _, _, _, _, _, _, _, by omega, rfl, _, _, _, _, _, _, _, _, rfl⟩
      by_cases e3 : s2 = 3
      · obtain ⟨x2, hx2, rfl⟩ := tV e3
        clear tV
        have hgm := gM_lt (c := G) hC.1 hw.1
        rw [if_pos e3, if_neg (show ¬ nI x2 < 0 from nI_pos (by omega)), many_eq hC hG3 hw.1, Option.bind_some]
        by_cases lt : x2 < gM k vs nw G
        · obtain ⟨sl1, sl2⟩ := sLeft_eq hC hw hG3 lt
          obtain ⟨q3, p3, s3, v3, S3⟩ := step_both hT qn2
          have c0 : (if s = 2 then (1 : Int32) else 0) = 0 → P_X11_worldsOf v (nI x2) (nI W) mv = some (nI (gF vs W wl G x2)) := by
            intro e
            rcases hG with ⟨e2, -⟩ | ⟨e1, hGk, rfl⟩
            · rw [if_pos e2] at e; exact absurd e one_ne
            · rw [worldsOf_eq hM (by omega) (by omega), gF, if_neg (by omega)]
          have c1 : ¬ (if s = 2 then (1 : Int32) else 0) = 0 → ∀ K : O9, ck (nI x2) 9 K = K ∧ mw (nI x2).toNatClampNeg = nI (gF vs W wl G x2) := by
            intro e K
            rcases hG with ⟨-, rfl⟩ | ⟨e1, -, -⟩
            · rw [gM, if_pos rfl] at lt
              have := hx.1
              rw [ck_in _ (by omega) (by decide), nI_clamp (by omega), (hx.2 x2 lt).1, gF, if_pos rfl]
              exact ⟨rfl, rfl⟩
            · rw [if_neg (by omega)] at e; exact absurd rfl e
          rw [if_pos (nI_lt lt (by omega)), sl1, Option.bind_some, e3, show nI 3 = 3 from rfl, rF2_good S3 b0 b1 (nI_ge lt (by omega)), rF3_good (show d < 10 by omega) c0 c1]
          unfold P_X2_addFactor
          rw [at_in _ (show d < 10 by omega) (by decide), Option.bind_some, put_in _ _ (show d < 10 by omega) (by decide), Option.bind_some, Option.bind_some, Option.bind_some]
          have hlt2 := lt92 (by omega)
          have fin := ihB q2 (by omega) (t + 1) d q3 p3 s3 f (g + 1) QF v3 (mm + 1) (nI p2) kd2 tl _ sm _ (by omega) hd (AA_and hA sl2) S3 (by omega) (by omega) (by unfold QF; omega)
          rw [← nI_1 t] at fin
          show OKS (if (1 : Int32) = 0 then _ else _) (Option.bind (Option.bind _ _) _) K W
          rw [if_neg one_ne, Option.bind_assoc]
          exact fin
        · rw [if_neg (nI_nlt (by omega) (by omega))]
          exact bad (fun _ => nI_le (by omega) (by omega))
      · rw [if_neg e3, if_pos (show (-1 : Int32) < 0 by decide)]
        exact bad (fun z => absurd ((nI_eq (b := 3) (by omega) (by decide)).mp z) e3)
    · rw [gO, Option.bind_some, if_pos rfl, rf_no (mm' := 0) fp s7 s10 n2 n1, Option.bind_some]
      show OKS _ (Option.bind (some _) _) K W
      rw [Option.bind_some, sT_fault fp]
      exact Or.inr ⟨p, _, _, _, _, _, _, _, _, by omega, rfl, _, _, _, _, _, _, _, _, rfl⟩
