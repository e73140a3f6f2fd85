/-! what follows a factor -/
theorem rF3_fault {n W c d mm v a st so va fa x : Int32} {fm mv mw sm ev : AR} (h : ¬ fa = -9) : rF3 n W c d mm fm mv mw sm ev x (v, a, st, so, va, fa) = some (a, st, so, va, fa, d, mm, sm, ev) := by
  rw [rF3, if_neg h]
theorem rF3_good {n W c mm v a st so va x X : Int32} {d : Nat} {fm mv mw sm ev : AR} (hd : d < 10) (h0 : x = 0 → P_X11_worldsOf c v W mv = some X) (h1 : ¬ x = 0 → ∀ K : Option (Int32 × Int32 × Int32 × Int32 × Int32 × Int32 × Int32 × AR × AR), ck v 9 K = K ∧ mw v.toNatClampNeg = X) : rF3 n W c (nI d) mm fm mv mw sm ev x (v, a, st, so, va, -9) = (P_X11_close_0 n (-9) fm sm QF a st so va (nI d) (upd ev d (ev d &&& X))).bind fun z => some (z.1, z.2.1, z.2.2.1, z.2.2.2.1, -9, z.2.2.2.2.1, mm + 1, sm, z.2.2.2.2.2) := by
  rw [rF3, if_pos rfl, ck_in _ hd (by decide), jn]
  have go : ck (nI d) 10 ((P_X11_close n a st so va (-9) (nI d) fm sm (upd ev (nI d).toNatClampNeg ((ev (nI d).toNatClampNeg) &&& X))).bind fun z => some (z.1, z.2.1, z.2.2.1, z.2.2.2.1, (-9 : Int32), z.2.2.2.2.1, mm + 1, sm, z.2.2.2.2.2)) = (P_X11_close_0 n (-9) fm sm QF a st so va (nI d) (upd ev d (ev d &&& X))).bind fun z => some (z.1, z.2.1, z.2.2.1, z.2.2.2.1, -9, z.2.2.2.2.1, mm + 1, sm, z.2.2.2.2.2) := by
    rw [ck_in _ hd (by decide), nI_clamp (by omega)]
    rfl
  by_cases e : x = 0
  · rw [if_pos e]
    show (P_X11_worldsOf c v W mv).bind _ = _
    rw [h0 e, Option.bind_some]
    exact go
  · rw [if_neg e]
    show ck v 9 _ = _
    rw [(h1 e _).1, (h1 e none).2]
    exact go
theorem rF2_fault {n W c d mm v a st so va fa x : Int32} {fm mv mws mw sm ev : AR} (h : ¬ fa = -9) : rF2 n W c d mm fm mv mws mw sm ev x (v, a, st, so, va, fa) = some (a, st, so, va, fa, d, mm, sm, ev) := by
  rw [rF2, jn, jn, if_neg h]
  show (P_X11_due 0 n a st so va fa fm).bind _ = _
  rw [due_skip h, Option.bind_some, rF3_fault h]
theorem rF2_bad {n W c d mm v a st so va x X : Int32} {fm mv mws mw sm ev : AR} (hst : ¬ st = -9) (h0 : x = 0 → ∀ K : O9, ck c 3 K = K ∧ mv c.toNatClampNeg = X) (h1 : ¬ x = 0 → mws 0 = X) (hb : so = 3 → X ≤ va) : rF2 n W c d mm fm mv mws mw sm ev x (v, a, st, so, va, -9) = some (a, st, so, va, st, d, mm, sm, ev) := by
  rw [rF2, jn, jn, if_pos rfl]
  have fin : ((P_X11_due 0 n a st so va (-9) fm).bind (rF3 n W c d mm fm mv mw sm ev x)) = some (a, st, so, va, st, d, mm, sm, ev) := by
    rw [due_no, Option.bind_some, rF3_fault hst]
  by_cases e : so = 3
  · rw [if_pos e, jn]
    by_cases g : x = 0
    · rw [if_pos g, (h0 g _).1, (h0 g none).2]
      show (if X ≤ va then _ else _) = _
      rw [if_pos (hb e)]
      exact fin
    · rw [if_neg g, ck0 _ (by decide) (by decide), cl0, h1 g]
      show (if X ≤ va then _ else _) = _
      rw [if_pos (hb e)]
      exact fin
  · rw [if_neg e]
    exact fin
theorem rF2_good {n i q p s : Nat} {W c d mm v st va x X v' : Int32} {fB fm mv mws mw sm ev : AR} (hS : STEP n fB fm i q p s v') (h0 : x = 0 → ∀ K : O9, ck c 3 K = K ∧ mv c.toNatClampNeg = X) (h1 : ¬ x = 0 → mws 0 = X) (hb : ¬ X ≤ va) : rF2 (nI n) W c d mm fm mv mws mw sm ev x (v, nI i, st, 3, va, -9) = rF3 (nI n) W c d mm fm mv mw sm ev x (va, nI q, nI p, nI s, v', -9) := by
  rw [rF2, jn, jn, if_pos rfl, if_pos rfl, jn]
  have fin : ((P_X11_due 1 (nI n) (nI i) st 3 va (-9) fm).bind (rF3 (nI n) W c d mm fm mv mw sm ev x)) = rF3 (nI n) W c d mm fm mv mw sm ev x (va, nI q, nI p, nI s, v', -9) := by
    rw [due_yes hS, Option.bind_some]
  by_cases g : x = 0
  · rw [if_pos g, (h0 g _).1, (h0 g none).2]
    show (if X ≤ va then _ else _) = _
    rw [if_neg hb]
    exact fin
  · rw [if_neg g, ck0 _ (by decide) (by decide), cl0, h1 g]
    show (if X ≤ va then _ else _) = _
    rw [if_neg hb]
    exact fin
theorem sT_fault {n ch W a st so va fa d mm l1 x : Int32} {fm mv mws mw sm ev : AR} {K : KS9} {g : Nat} (h : ¬ fa = -9) : sT n ch W fm mv mws mw K (g + 1) l1 x (a, st, so, va, fa, d, mm, sm, ev) = K a st so va fa d mm sm ev := by
  rw [sT, jn, if_neg h]
  show P_X11_say_41 n ch W fm mv mws mw K (g + 1) l1 a st so va fa d mm sm ev = _
  rw [say41_unf, if_neg h]
theorem sT_opens {n ch W a st so va d mm l1 : Int32} {fm mv mws mw sm ev : AR} {K : KS9} {g : Nat} : sT n ch W fm mv mws mw K g l1 1 (a, st, so, va, -9, d, mm, sm, ev) = P_X11_say_41 n ch W fm mv mws mw K g l1 a st so va (-9) d mm sm ev := by
  rw [sT, jn, if_pos rfl, if_neg one_ne]
theorem sT_end {n ch W a st va mm l1 : Int32} {fm mv mws mw sm ev : AR} {K : KS9} {g : Nat} : sT n ch W fm mv mws mw K (g + 1) l1 0 (a, st, 9, va, -9, 0, mm, sm, ev) = K a st 9 va (-9) 0 mm sm ev := by
  rw [sT, jn, if_pos rfl, if_pos rfl, jn, jn, if_pos rfl, if_pos (show (0 : Int32) ≤ 0 by decide)]
  show (if (0 : Int32) = 0 then P_X11_say_41 n ch W fm mv mws mw K (g + 1) 0 a st 9 va (-9) 0 mm sm ev else _) = _
  rw [if_pos rfl, say41_unf, if_pos rfl, if_pos rfl]
theorem sT_bad {n ch W a st so va d mm l1 : Int32} {fm mv mws mw sm ev : AR} {K : KS9} {g : Nat} (hst : ¬ st = -9) (h9 : so = 9 → ¬ d ≤ 0) (h5 : ¬ so = 5) (h6 : ¬ so = 6) : sT n ch W fm mv mws mw K (g + 1) l1 0 (a, st, so, va, -9, d, mm, sm, ev) = K a st so va st d mm sm ev := by
  rw [sT, jn, if_pos rfl, if_pos rfl, jn]
  have fin : (if (1 : Int32) = 0 then P_X11_say_41 n ch W fm mv mws mw K (g + 1) 1 a st so va (-9) d mm sm ev else jn (fun (x125_s0 : Int32) => jn (fun (_ : Unit) => (P_X11_due 1 n a st so va (-9) fm).bind fun (z_145 : D6) => if z_145.2.2.2.2.2 = (-9) then ( if x125_s0 = 0 then ( P_X11_say_41 n ch W fm mv mws mw K (g + 1) 1 z_145.2.1 z_145.2.2.1 z_145.2.2.2.1 z_145.2.2.2.2.1 z_145.2.2.2.2.2 d mm sm ev ) else ( ck d 10 ( ck d 10 ( ck d 10 ( (P_X11_allSets W).bind fun (z_192 : Int32) => ck d 10 ( P_X11_say_41 n ch W fm mv mws mw K (g + 1) 1 z_145.2.1 z_145.2.2.1 z_145.2.2.2.1 z_145.2.2.2.2.1 z_145.2.2.2.2.2 d mm (upd sm d.toNatClampNeg ((sm d.toNatClampNeg) ||| (ev d.toNatClampNeg))) (upd ev d.toNatClampNeg z_192) ) ) ) ) ) ) else ( P_X11_say_41 n ch W fm mv mws mw K (g + 1) 1 z_145.2.1 z_145.2.2.1 z_145.2.2.2.1 z_145.2.2.2.2.1 z_145.2.2.2.2.2 d mm sm ev )) (fun (j140 : Unit → OT) => jn (fun (x145_s1 : Int32) => (P_X11_due x145_s1 n a st so va (-9) fm).bind fun (z_145 : D6) => if z_145.2.2.2.2.2 = (-9) then ( if x125_s0 = 0 then ( P_X11_say_41 n ch W fm mv mws mw K (g + 1) 1 z_145.2.1 z_145.2.2.1 z_145.2.2.2.1 z_145.2.2.2.2.1 z_145.2.2.2.2.2 d mm sm ev ) else ( ck d 10 ( ck d 10 ( ck d 10 ( (P_X11_allSets W).bind fun (z_192 : Int32) => ck d 10 ( P_X11_say_41 n ch W fm mv mws mw K (g + 1) 1 z_145.2.1 z_145.2.2.1 z_145.2.2.2.1 z_145.2.2.2.2.1 z_145.2.2.2.2.2 d mm (upd sm d.toNatClampNeg ((sm d.toNatClampNeg) ||| (ev d.toNatClampNeg))) (upd ev d.toNatClampNeg z_192) ) ) ) ) ) ) else ( P_X11_say_41 n ch W fm mv mws mw K (g + 1) 1 z_145.2.1 z_145.2.2.1 z_145.2.2.2.1 z_145.2.2.2.2.1 z_145.2.2.2.2.2 d mm sm ev )) (fun (j145 : Int32 → OT) => if x125_s0 = 0 then ( if so = 6 then ( j140 () ) else ( j145 0 ) ) else ( j140 () )))) (fun (j125 : Int32 → OT) => if so = 5 then ( j125 1 ) else ( j125 0 ))) = K a st so va st d mm sm ev := by
    rw [if_neg one_ne, jn, if_neg h5]
    show jn _ _ = _
    rw [jn, jn, if_pos rfl, if_neg h6]
    show (P_X11_due 0 n a st so va (-9) fm).bind _ = _
    rw [due_no, Option.bind_some, if_neg hst]
    show P_X11_say_41 n ch W fm mv mws mw K (g + 1) 1 a st so va st d mm sm ev = _
    rw [say41_unf, if_neg hst]
  rw [jn]
  by_cases e : so = 9
  · rw [if_pos e, if_neg (h9 e)]; exact fin
  · rw [if_neg e]; exact fin
theorem sT_and {n i q p s : Nat} {ch W st va d mm l1 v : Int32} {fB fm mv mws mw sm ev : AR} {K : KS9} {g : Nat} (hS : STEP n fB fm i q p s v) : sT (nI n) ch W fm mv mws mw K g l1 0 (nI i, st, 6, va, -9, d, mm, sm, ev) = P_X11_say_41 (nI n) ch W fm mv mws mw K g 1 (nI q) (nI p) (nI s) v (-9) d mm sm ev := by
  rw [sT, jn, if_pos rfl, if_pos rfl, jn, jn, if_neg (show ¬ (6 : Int32) = 9 by decide), if_neg one_ne, jn, if_neg (show ¬ (6 : Int32) = 5 by decide)]
  show jn _ _ = _
  rw [jn, jn, if_pos rfl, if_pos rfl, due_yes hS, Option.bind_some, if_pos rfl, if_pos rfl]
theorem sT_or {n i q p s d W : Nat} {ch st va mm l1 v : Int32} {fB fm mv mws mw sm ev : AR} {K : KS9} {g : Nat} (hd : d < 10) (h9 : W ≤ 9) (hS : STEP n fB fm i q p s v) : sT (nI n) ch (nI W) fm mv mws mw K g l1 0 (nI i, st, 5, va, -9, nI d, mm, sm, ev) = P_X11_say_41 (nI n) ch (nI W) fm mv mws mw K g 1 (nI q) (nI p) (nI s) v (-9) (nI d) mm (upd sm d (sm d ||| ev d)) (upd ev d (nI (2 ^ W - 1))) := by
  rw [sT, jn, if_pos rfl, if_pos rfl, jn, jn, if_neg (show ¬ (5 : Int32) = 9 by decide), if_neg one_ne, jn, if_pos rfl]
  show jn _ _ = _
  rw [jn, jn, if_neg one_ne, due_yes hS, Option.bind_some, if_pos rfl, if_neg one_ne]
  show ck (nI d) 10 (ck (nI d) 10 (ck (nI d) 10 ((P_X11_allSets (nI W)).bind fun z => ck (nI d) 10 (P_X11_say_41 (nI n) ch (nI W) fm mv mws mw K g 1 (nI q) (nI p) (nI s) v (-9) (nI d) mm (upd sm (nI d).toNatClampNeg ((sm (nI d).toNatClampNeg) ||| (ev (nI d).toNatClampNeg))) (upd ev (nI d).toNatClampNeg z))))) = _
  rw [ck_in _ hd (by decide), ck_in _ hd (by decide), ck_in _ hd (by decide), allSets_eq h9, Option.bind_some, ck_in _ hd (by decide), nI_clamp (by omega)]
