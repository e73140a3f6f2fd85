/-! THE TEXT as a TONGUE, read by both -/
abbrev KT := Int32 → Int32 → Int32 → Int32 → Int32 → Int32 → Int32 → (Nat → Int32) → Option (Int32 × Int32 × Int32 × Int32 × Int32 × Int32 × Int32 × Int32 × Int32 × (Nat → Int32) × (Nat → Int32) × (Nat → Int32) × (Nat → Int32) × (Nat → Int32))
abbrev OT := Option (Int32 × Int32 × Int32 × Int32 × Int32 × Int32 × Int32 × Int32 × Int32 × (Nat → Int32) × (Nat → Int32) × (Nat → Int32) × (Nat → Int32) × (Nat → Int32))
abbrev D6 := Int32 × Int32 × Int32 × Int32 × Int32 × Int32
def tR3 (n : Int32) (fm : Nat → Int32) (K : KT) (f : Nat) (c w : Int32) (dr : Nat → Int32) (z97 : D6) : OT := jn (fun (x115 : Int32) => (P_X11_due x115 n z97.2.1 z97.2.2.1 z97.2.2.2.1 z97.2.2.2.2.1 z97.2.2.2.2.2 fm).bind fun (z115 : D6) => jn (fun (a : Int32) (b : Int32) (d : Nat → Int32) => P_X11_tongue_19 n fm K f a b z115.2.1 z115.2.2.1 z115.2.2.2.1 z115.2.2.2.2.1 z115.2.2.2.2.2 d) (fun (j142 : Int32 → Int32 → (Nat → Int32) → OT) => if z115.2.2.2.2.2 = (-9) then ck c 3 (j142 (c + 1) (w * z97.1) (upd dr c.toNatClampNeg z97.1)) else j142 c w dr)) (fun (j115 : Int32 → OT) => if z97.2.2.2.1 = 4 then j115 1 else j115 0)
def tR2 (n : Int32) (fm : Nat → Int32) (K : KT) (f : Nat) (c w : Int32) (dr : Nat → Int32) (z55 : D6) : OT := jn (fun (_ : Unit) => (P_X11_due 0 n z55.2.1 z55.2.2.1 z55.2.2.2.1 z55.2.2.2.2.1 z55.2.2.2.2.2 fm).bind (tR3 n fm K f c w dr)) (fun (j96 : Unit → OT) => jn (fun (x97 : Int32) => (P_X11_due x97 n z55.2.1 z55.2.2.1 z55.2.2.2.1 z55.2.2.2.2.1 z55.2.2.2.2.2 fm).bind (tR3 n fm K f c w dr)) (fun (j97 : Int32 → OT) => if z55.2.2.2.1 = 3 then (P_X11_in z55.2.2.2.2.1 2 9).bind fun (z75 : Int32) => if z75 = 0 then j96 () else (if 9 < (w * z55.2.2.2.2.1) then j96 () else j97 1) else j96 ()))
theorem tongue19 (n : Int32) (fm : Nat → Int32) (K : KT) (f : Nat) (c w at_ st so va fa : Int32) (dr : Nat → Int32) : P_X11_tongue_19 n fm K (f + 1) c w at_ st so va fa dr = if fa = (-9) then (if so = 9 then K c w at_ st so va fa dr else jn (fun (_ : Unit) => (P_X11_due 0 n at_ st so va fa fm).bind (tR2 n fm K f c w dr)) (fun (j54 : Unit → OT) => jn (fun (x55 : Int32) => (P_X11_due x55 n at_ st so va fa fm).bind (tR2 n fm K f c w dr)) (fun (j55 : Int32 → OT) => if so = 0 then (if 3 ≤ c then j54 () else j55 1) else j54 ()))) else K c w at_ st so va fa dr := rfl
theorem due_skip {x n a st so va f : Int32} {fm : Nat → Int32} (h : ¬ f = -9) : P_X11_due x n a st so va f fm = some (va, a, st, so, va, f) := by
  unfold P_X11_due
  rw [if_neg h]
theorem due_no {n a st so va : Int32} {fm : Nat → Int32} : P_X11_due 0 n a st so va (-9) fm = some (va, a, st, so, va, st) := by
  unfold P_X11_due
  rw [if_pos rfl, if_pos rfl]
theorem due_yes {n i q p s : Nat} {st so va v : Int32} {fB fm : Nat → Int32} (h : STEP n fB fm i q p s v) : P_X11_due 1 (nI n) (nI i) st so va (-9) fm = some (va, nI q, nI p, nI s, v, -9) := by
  obtain ⟨kd, -, h2, -⟩ := h
  unfold P_X11_due
  rw [if_pos rfl, if_neg one_ne, h2]
  rfl
theorem tR3_skip {n : Int32} {fm : Nat → Int32} {K : KT} {f : Nat} {c w v a st so va fa : Int32} {dr : Nat → Int32} (h : ¬ fa = -9) : tR3 n fm K (f + 1) c w dr (v, a, st, so, va, fa) = K c w a st so va fa dr := by
  rw [tR3, jn]
  have go : ∀ x, ((P_X11_due x n a st so va fa fm).bind fun (z115 : D6) => jn (fun (a : Int32) (b : Int32) (d : Nat → Int32) => P_X11_tongue_19 n fm K (f + 1) a b z115.2.1 z115.2.2.1 z115.2.2.2.1 z115.2.2.2.2.1 z115.2.2.2.2.2 d) (fun (j142 : Int32 → Int32 → (Nat → Int32) → OT) => if z115.2.2.2.2.2 = (-9) then ck c 3 (j142 (c + 1) (w * v) (upd dr c.toNatClampNeg v)) else j142 c w dr)) = K c w a st so va fa dr := by
    intro x
    rw [due_skip h, Option.bind_some, jn, if_neg h]
    show P_X11_tongue_19 n fm K (f + 1) c w a st so va fa dr = _
    rw [tongue19, if_neg h]
  by_cases e : so = 4
  · rw [if_pos e]; exact go 1
  · rw [if_neg e]; exact go 0
theorem tR2_skip {n : Int32} {fm : Nat → Int32} {K : KT} {f : Nat} {c w v a st so va fa : Int32} {dr : Nat → Int32} (h : ¬ fa = -9) : tR2 n fm K (f + 1) c w dr (v, a, st, so, va, fa) = K c w a st so va fa dr := by
  rw [tR2, jn]
  have go : ∀ x, ((P_X11_due x n a st so va fa fm).bind (tR3 n fm K (f + 1) c w dr)) = K c w a st so va fa dr := by
    intro x
    rw [due_skip h, Option.bind_some, tR3_skip h]
  rw [jn]
  by_cases e : so = 3
  · rw [if_pos e]
    by_cases q : (va < 2 ∨ 9 < va)
    · rw [in_out q, Option.bind_some, if_pos rfl]; exact go 0
    · have : P_X11_in va 2 9 = some 1 := by
        obtain ⟨j, hj, rfl⟩ := nI_of (x := va) (fun z => q (Or.inl (by
          rw [Int32.lt_iff_toInt_lt] at z ⊢
          have e0 : (0 : Int32).toInt = 0 := by decide
          have e2 : (2 : Int32).toInt = 2 := by decide
          omega)))
        have a1 : ¬ nI j < nI 2 := fun z => q (Or.inl z)
        have a2 : ¬ nI 9 < nI j := fun z => q (Or.inr z)
        have b1 : ¬ j < 2 := fun z => a1 (nI_lt z (by decide))
        have b2 : ¬ 9 < j := fun z => a2 (nI_lt z hj)
        exact in_in (a := 2) (c := 9) (by omega) (by omega) (by decide)
      rw [this, Option.bind_some, if_neg one_ne]
      by_cases g : 9 < w * va
      · rw [if_pos g]; exact go 0
      · rw [if_neg g]; exact go 1
  · rw [if_neg e]; exact go 0
def TD (c : Nat) (d : Nat → Nat) (w : Nat) : Prop := c ≤ 3 ∧ (∀ j, j < c → 2 ≤ d j ∧ d j ≤ 9) ∧ w = stp d c ∧ w ≤ 9
theorem stp_congr {d e : Nat → Nat} : ∀ c, (∀ j, j < c → d j = e j) → stp d c = stp e c := by
  intro c
  induction c with
  | zero => intro _; rfl
  | succ c ih => intro h; rw [stp, stp, ih (fun j hj => h j (by omega)), h c (by omega)]
theorem TD_add {c w x : Nat} {d : Nat → Nat} (h : TD c d w) (hc : c < 3) (h2 : 2 ≤ x) (h9 : x ≤ 9) (hw : w * x ≤ 9) : TD (c + 1) (un d c x) (w * x) := by
  refine ⟨by omega, fun j hj => ?_, ?_, hw⟩
  · by_cases e : j = c
    · rw [e, un_s]; exact ⟨h2, h9⟩
    · rw [un_n _ _ e]; exact h.2.1 j (by omega)
  · rw [stp, un_s, stp_congr (e := d) c (fun j hj => un_n _ _ (by omega)), ← h.2.2.1]
abbrev KP := Int32 → Int32 → Int32 → Int32 → (Nat → Int32) → Option (Int32 × Int32 × Int32 × Int32 × Int32 × (Nat → Int32))
def kp : KP := fun a b c d e => (P_X7_place c).bind fun z => some (z, a, b, c, d, e)
theorem kp_eq (a b c d : Int32) (e : Nat → Int32) : kp a b c d e = some (c, a, b, c, d, e) := rfl
def OKT (X : Option (Int32 × Int32 × Int32 × Int32 × Int32 × (Nat → Int32))) (Y : OT) (K : KT) : Prop := ∃ z1 z2 z3 z4 z5 z6, X = some (z1, z2, z3, z4, z5, z6) ∧ ((∃ c d w, z1 = -1 ∧ z2 = nI c ∧ (∀ j, j < c → z6 j = nI (d j)) ∧ TD c d w ∧ ∃ a st so va dr, Y = K (nI c) (nI w) a st so va (-9) dr ∧ ∀ j, j < c → dr j = nI (d j)) ∨ (∃ p, p ≤ 200 ∧ z1 = nI p ∧ ∃ c w a st so va dr, Y = K c w a st so va (nI p) dr))
theorem tongue_loop {n : Nat} {b : Nat → Nat} {fB fm : Nat → Int32} {K : KT} (h : TX n b fB fm) : ∀ (m c : Nat), c + m = 3 → ∀ (f g : Nat) (i q p s w : Nat) (v p0 k0 : Int32) (d : Nat → Nat) (fv dr : Nat → Int32), m + 2 < f → m + 2 < g → TD c d w → (∀ j, j < c → fv j = nI (d j) ∧ dr j = nI (d j)) → STEP n fB fm i q p s v → OKT (P_X2_faultOfTongue_16 (nI n) fB kp kp kp kp f (nI w) (nI c) (nI c) (nI i) p0 k0 fv) (P_X11_tongue_19 (nI n) fm K g (nI c) (nI w) (nI q) (nI p) (nI s) v (-9) dr) K := by
  have h1 := h.1
  intro m
  induction m using Nat.strongRecOn with
  | ind m ih =>
    intro c hcm f g i q p s w v p0 k0 d fv dr hf hg hT hd hS
    obtain ⟨f, rfl⟩ : ∃ q, f = q + 1 := ⟨f - 1, by omega⟩
    obtain ⟨g, rfl⟩ : ∃ q, g = q + 2 := ⟨g - 2, by omega⟩
    obtain ⟨kd, s1, -, ⟨t9, t59, -, -, -, -, tC, -, -, -⟩, ip, pq, qn, -, s10⟩ := hS
    obtain ⟨T1, T2, T3, T4⟩ := hT
    have fp : ¬ nI p = -9 := n9_ne (by omega)
    rw [P_X2_faultOfTongue_16, if_neg (show ¬ (3 : Int32) < nI c from nI_nlt (a := 3) (by omega) (by decide)), s1, Option.bind_some, show P_X7_is 0 (nI q, nI p, kd).2.2 = _ from t9, Option.bind_some, tongue19, if_pos rfl]
    by_cases e9 : s = 9
    · rw [if_neg (show ¬ bI (s == 9) = 0 by rw [e9]; decide), if_pos (show nI s = 9 by rw [e9]; rfl)]
      exact ⟨_, _, _, _, _, _, rfl, Or.inl ⟨c, d, w, rfl, rfl, fun j hj => (hd j hj).1, ⟨T1, T2, T3, T4⟩, _, _, _, _, _, rfl, fun j hj => (hd j hj).2⟩⟩
    · rw [if_pos (show bI (s == 9) = 0 by rw [beq_eq_false_iff_ne.mpr e9]; rfl), if_neg (show ¬ nI s = 9 from fun z => e9 ((nI_eq (b := 9) (by omega) (by decide)).mp z)), show P_X7_isChoice (nI q, nI p, kd).1 (nI q, nI p, kd).2.1 (nI q, nI p, kd).2.2 (nI n) fB = _ from tC, Option.bind_some, jn, jn]
      have bad : OKT (kp (nI c) (nI q) (nI p) kd fv) ((P_X11_due 0 (nI n) (nI q) (nI p) (nI s) v (-9) fm).bind (tR2 (nI n) fm K (g + 1) (nI c) (nI w) dr)) K := by
        rw [due_no, Option.bind_some, tR2_skip fp, kp_eq]
        exact ⟨_, _, _, _, _, _, rfl, Or.inr ⟨p, by omega, rfl, _, _, _, _, _, _, _, rfl⟩⟩
      by_cases e0 : s = 0
      · rw [if_neg (show ¬ bI (s == 0) = 0 by rw [e0]; decide), if_pos (show nI s = 0 by rw [e0]; rfl)]
        by_cases c3 : c = 3
        · rw [if_pos (show nI c = 3 by rw [c3]; rfl), if_pos (show (3 : Int32) ≤ nI c by rw [c3]; decide)]
          exact bad
        · rw [if_neg (show ¬ nI c = 3 from fun z => c3 ((nI_eq (b := 3) (by omega) (by decide)).mp z)), if_neg (show ¬ (3 : Int32) ≤ nI c from nI_ge (b := 3) (by omega) (by decide))]
          obtain ⟨q2, p2, s2, v2, S2⟩ := step_both h qn
          show OKT _ ((P_X11_due 1 (nI n) (nI q) (nI p) (nI s) v (-9) fm).bind _) K
          rw [due_yes S2, Option.bind_some]
          obtain ⟨kd2, u1, -, ⟨-, -, -, -, -, -, -, tN', tV', -⟩, ip', pq', qn', -, s10'⟩ := S2
          have fp2 : ¬ nI p2 = -9 := n9_ne (by omega)
          rw [show P_X7_step (nI q, nI p, kd).1 (nI q, nI p, kd).2.1 (nI q, nI p, kd).2.2 (nI n) fB = _ from u1 _ _, Option.bind_some, show P_X7_number (nI q2, nI p2, kd2).1 (nI q2, nI p2, kd2).2.1 (nI q2, nI p2, kd2).2.2 (nI n) fB = _ from tN', Option.bind_some, tR2, jn, jn]
          have bad2 : OKT (kp (nI c) (nI q2) (nI p2) kd2 fv) ((P_X11_due 0 (nI n) (nI q2) (nI p2) (nI s2) v2 (-9) fm).bind (tR3 (nI n) fm K (g + 1) (nI c) (nI w) dr)) K := by
            rw [due_no, Option.bind_some, tR3_skip fp2, kp_eq]
            exact ⟨_, _, _, _, _, _, rfl, Or.inr ⟨p2, by omega, rfl, _, _, _, _, _, _, _, rfl⟩⟩
          by_cases e3 : s2 = 3
          · obtain ⟨x, hx, rfl⟩ := tV' e3
            clear tV'
            rw [if_pos e3, if_pos (show nI s2 = 3 by rw [e3]; rfl)]
            show OKT _ ((P_X11_in (nI x) 2 9).bind _) K
            have hin : P_X11_in (nI x) 2 9 = some (bI (decide (2 ≤ x) && decide (x ≤ 9))) := inb_eq (lo := 2) (hi := 9) (by omega) (by decide) (by decide)
            rw [hin, Option.bind_some]
            by_cases x2 : x < 2
            · rw [if_pos (show nI x < 2 from nI_lt (b := 2) x2 (by decide)), decide_eq_false (show ¬ 2 ≤ x by omega), if_pos (show bI (false && decide (x ≤ 9)) = 0 from rfl)]
              exact bad2
            · rw [if_neg (show ¬ nI x < 2 from nI_nlt (b := 2) (by omega) (by omega)), decide_eq_true (show 2 ≤ x by omega)]
              by_cases x9 : 9 < x
              · rw [if_pos (show (9 : Int32) < nI x from nI_lt (a := 9) x9 (by omega)), decide_eq_false (show ¬ x ≤ 9 by omega), if_pos (show bI (true && false) = 0 from rfl)]
                exact bad2
              · rw [if_neg (show ¬ (9 : Int32) < nI x from nI_nlt (a := 9) (by omega) (by decide)), decide_eq_true (show x ≤ 9 by omega), if_neg (show ¬ bI (true && true) = 0 by decide), pk_mul]
                have hwx : w * x ≤ 81 := Nat.mul_le_mul (show w ≤ 9 by omega) (show x ≤ 9 by omega)
                by_cases w9 : w * x ≤ 9
                · rw [if_pos (show nI (w * x) ≤ 9 from nI_le (b := 9) w9 (by decide)), if_neg (show ¬ (9 : Int32) < nI (w * x) from nI_nlt (a := 9) (by omega) (by decide))]
                  obtain ⟨q3, p3, s3, v3, S3⟩ := step_both h qn'
                  show OKT _ ((P_X11_due 1 (nI n) (nI q2) (nI p2) (nI s2) (nI x) (-9) fm).bind _) K
                  rw [due_yes S3, Option.bind_some]
                  obtain ⟨kd3, y1, -, ⟨-, t59'', -, -, -, -, -, -, -, -⟩, ip'', pq'', qn'', -, s10''⟩ := S3
                  have fp3 : ¬ nI p3 = -9 := n9_ne (by omega)
                  rw [show P_X7_step (nI q2, nI p2, kd2).1 (nI q2, nI p2, kd2).2.1 (nI q2, nI p2, kd2).2.2 (nI n) fB = _ from y1 _ _, Option.bind_some, show P_X7_is 59 (nI q3, nI p3, kd3).2.2 = _ from t59'', Option.bind_some]
                  by_cases e4 : s3 = 4
                  · rw [if_neg (show ¬ bI (s3 == 4) = 0 by rw [e4]; decide), put_in _ _ (show c < 3 by omega) (by decide), Option.bind_some, tR3, jn, if_pos (show nI s3 = 4 by rw [e4]; rfl)]
                    obtain ⟨q4, p4, s4, v4, S4⟩ := step_both h qn''
                    show OKT _ ((P_X11_due 1 (nI n) (nI q3) (nI p3) (nI s3) v3 (-9) fm).bind _) K
                    rw [due_yes S4, Option.bind_some, jn, if_pos rfl, ck_in _ (show c < 3 by omega) (by decide), nI_clamp (show c < 2 ^ 31 by omega), nI_1]
                    show OKT (P_X2_faultOfTongue_16 (nI n) fB kp kp kp kp f (nI (w * x)) (nI (c + 1)) (nI (c + 1)) (nI q3) (nI p3) kd3 (upd fv c (nI x))) (P_X11_tongue_19 (nI n) fm K (g + 1) (nI (c + 1)) (nI w * nI x) (nI q4) (nI p4) (nI s4) v4 (-9) (upd dr c (nI x))) K
                    rw [pk_mul]
                    refine ih (m - 1) (by omega) (c + 1) (by omega) f (g + 1) q3 q4 p4 s4 (w * x) v4 _ _ (un d c x) _ _ (by omega) (by omega) (TD_add ⟨T1, T2, T3, T4⟩ (by omega) (by omega) (by omega) w9) (fun j hj => ?_) S4
                    by_cases e : j = c
                    · rw [e, pk_us, pk_us, un_s]; exact ⟨rfl, rfl⟩
                    · rw [pk_un e, pk_un e, un_n _ _ e]; exact hd j (by omega)
                  · rw [if_pos (show bI (s3 == 4) = 0 by rw [beq_eq_false_iff_ne.mpr e4]; rfl), tR3, jn, if_neg (show ¬ nI s3 = 4 from fun z => e4 ((nI_eq (b := 4) (by omega) (by decide)).mp z))]
                    show OKT (kp (nI c) (nI q3) (nI p3) kd3 fv) ((P_X11_due 0 (nI n) (nI q3) (nI p3) (nI s3) v3 (-9) fm).bind _) K
                    rw [due_no, Option.bind_some, jn, if_neg fp3, kp_eq]
                    show OKT _ (P_X11_tongue_19 (nI n) fm K (g + 1) (nI c) (nI w) (nI q3) (nI p3) (nI s3) v3 (nI p3) dr) K
                    rw [tongue19, if_neg fp3]
                    exact ⟨_, _, _, _, _, _, rfl, Or.inr ⟨p3, by omega, rfl, _, _, _, _, _, _, _, rfl⟩⟩
                · rw [if_neg (show ¬ nI (w * x) ≤ 9 from nI_ge (a := 9) (by omega) (by omega)), if_pos (show (9 : Int32) < nI (w * x) from nI_lt (a := 9) (by omega) (by omega))]
                  exact bad2
          · rw [if_neg e3, if_pos (show (-1 : Int32) < 2 by decide), if_neg (show ¬ nI s2 = 3 from fun z => e3 ((nI_eq (b := 3) (by omega) (by decide)).mp z))]
            exact bad2
      · rw [if_pos (show bI (s == 0) = 0 by rw [beq_eq_false_iff_ne.mpr e0]; rfl), if_neg (show ¬ nI s = 0 from fun z => e0 ((nI_eq (b := 0) (by omega) (by decide)).mp z))]
        exact bad
