/-! the class's lengths, level by level -/
def LV (W : Nat) (G : Nat → Prop) (n : Nat) (g : SG) : Prop := INV W g ∧ (∀ s, s < 2 ^ W → g.2.1 s = T G n s) ∧ ∀ i j, i ≤ j → j < g.1 → g.2.1 (g.2.2 i) ≤ g.2.1 (g.2.2 j)
theorem LV_step {W n : Nat} {G : Nat → Prop} {g : SG} {L : List Nat} (h : LV W G n g) (hL : ∀ s ∈ L, s < 2 ^ W) (hm : ∀ s, s < 2 ^ W → g.2.1 s = 0 → (s ∈ L ↔ TN G n s)) : LV W G (n + 1) (nts (n + 1) g L) := by
  obtain ⟨hI, hT, hO⟩ := h
  have hI2 := nts_inv (N := n + 1) (by omega) L g hI hL
  have hE := nts_ext (n + 1) L g
  refine ⟨hI2, fun s hs => ?_, fun i j hij hj => ?_⟩
  · by_cases g0 : g.2.1 s = 0
    · have h0 : T G n s = 0 := by rw [← hT s hs]; exact g0
      obtain ⟨v1, v2⟩ := nts_val (N := n + 1) (by omega) L g s g0
      by_cases q : s ∈ L
      · rw [v1 q, T_new h0 ((hm s hs g0).mp q)]
      · rw [v2 q, T_no h0 (fun z => q ((hm s hs g0).mpr z))]
    · rw [hE.2.2 s g0, T_old (by rw [← hT s hs]; exact g0), hT s hs]
  · have hi2 := hI2.2.2
    by_cases hj1 : j < g.1
    · have e1 := hE.2.1 i (by omega)
      have e2 := hE.2.1 j hj1
      have n1 : g.2.1 (g.2.2 i) ≠ 0 := (hI.2.1 _ (hI.2.2 i (by omega))).mpr ⟨i, by omega, rfl⟩
      have n2 : g.2.1 (g.2.2 j) ≠ 0 := (hI.2.1 _ (hI.2.2 j hj1)).mpr ⟨j, hj1, rfl⟩
      rw [e1, e2, hE.2.2 _ n1, hE.2.2 _ n2]
      exact hO i j hij hj1
    · rw [nts_new (N := n + 1) (by omega) L g j (by omega) hj]
      by_cases hi1 : i < g.1
      · have n1 : g.2.1 (g.2.2 i) ≠ 0 := (hI.2.1 _ (hI.2.2 i hi1)).mpr ⟨i, hi1, rfl⟩
        rw [hE.2.1 i hi1, hE.2.2 _ n1, hT _ (hI.2.2 i hi1)]
        have := T_le G n (g.2.2 i)
        omega
      · rw [nts_new (N := n + 1) (by omega) L g i (by omega) (by omega)]
        exact Nat.le_refl _
/-- the arrays hold this -/
def REP (W : Nat) (c : Int32) (fl fo : Nat → Int32) (g : SG) : Prop := c = nI g.1 ∧ (∀ s, s < 2 ^ W → fl s = nI (g.2.1 s) ∧ g.2.1 s < 100) ∧ ∀ j, j < g.1 → fo j = nI (g.2.2 j)
theorem rep_nt {W N : Nat} {c : Int32} {fl fo : Nat → Int32} {g : SG} {s : Nat} (hR : REP W c fl fo g) (hN : N < 100) (hs : s < 2 ^ W) (h0 : g.2.1 s = 0) : REP W (c + 1) (upd fl s (nI N)) (upd fo g.1 (nI s)) (nt N g s) := by
  rw [nt, if_pos h0]
  refine ⟨by rw [hR.1, nI_1], fun x hx => ?_, fun j hj => ?_⟩
  · show upd fl s (nI N) x = nI (un g.2.1 s N x) ∧ un g.2.1 s N x < 100
    by_cases q : x = s
    · subst q; rw [pk_us, un_s]; exact ⟨rfl, hN⟩
    · rw [pk_un q, un_n _ _ q]; exact hR.2.1 x hx
  · show upd fo g.1 (nI s) j = nI (un g.2.2 g.1 s j)
    have hj : j < g.1 + 1 := hj
    by_cases q : j = g.1
    · subst q; rw [pk_us, un_s]
    · rw [pk_un q, un_n _ _ q]; exact hR.2.2 j (by omega)
theorem note_c {W N : Nat} {c : Int32} {fl fo : Nat → Int32} {g : SG} {s : Nat} (h9 : W ≤ 9) (hR : REP W c fl fo g) (hI : INV W g) (hN : N < 100) (hs : s < 2 ^ W) : ∃ c' fl' fo', P_X1_note (nI s) (nI N) c fl fo = some (c', fl', fo') ∧ REP W c' fl' fo' (nt N g s) := by
  have ⟨p1, p2⟩ := p9 h9
  obtain ⟨r1, r2⟩ := hR.2.1 s hs
  unfold P_X1_note
  rw [at_in fl (show s < 512 by omega) (by decide), Option.bind_some, r1]
  by_cases h0 : g.2.1 s = 0
  · have hlt := hI.lt hs h0
    rw [if_pos (by rw [h0]; rfl), put_in _ _ (show s < 512 by omega) (by decide), Option.bind_some, hR.1, put_in _ _ (show g.1 < 512 by omega) (by decide), Option.bind_some]
    refine ⟨_, _, _, rfl, ?_⟩
    rw [← hR.1]
    exact rep_nt hR hN hs h0
  · rw [if_neg (nI_ne (by omega) (by omega))]
    refine ⟨_, _, _, rfl, ?_⟩
    rw [nt, if_neg h0]
    exact hR
theorem find_m {W N : Nat} {c : Int32} {fl fo : Nat → Int32} {g : SG} {s : Nat} (h9 : W ≤ 9) (hR : REP W c fl fo g) (hI : INV W g) (hN : N < 100) (hs : s < 2 ^ W) : ∃ c' fl' fo', P_X11_find (nI s) (nI N) c fl fo = some (c', fl', fo') ∧ REP W c' fl' fo' (nt N g s) := by
  have ⟨p1, p2⟩ := p9 h9
  obtain ⟨r1, r2⟩ := hR.2.1 s hs
  unfold P_X11_find
  rw [ck_in _ (show s < 512 by omega) (by decide), nI_clamp (show s < 2 ^ 31 by omega), r1]
  by_cases h0 : g.2.1 s = 0
  · have hlt := hI.lt hs h0
    rw [if_pos (by rw [h0]; rfl), ck_in _ (show s < 512 by omega) (by decide), hR.1, ck_in _ (show g.1 < 512 by omega) (by decide), nI_clamp (show g.1 < 2 ^ 31 by omega)]
    refine ⟨_, _, _, rfl, ?_⟩
    rw [← hR.1]
    exact rep_nt hR hN hs h0
  · rw [if_neg (nI_ne (by omega) (by omega))]
    refine ⟨_, _, _, rfl, ?_⟩
    rw [nt, if_neg h0]
    exact hR
/-- what the class joins -/
def jl (o : Nat → Nat) (x : Nat) : Nat → Nat → List Nat
  | 0, _ => []
  | m + 1, q => (x &&& o q) :: (x ||| o q) :: jl o x m (q + 1)
theorem mem_jl {o : Nat → Nat} {x s : Nat} : ∀ (m q : Nat), s ∈ jl o x m q ↔ ∃ r, q ≤ r ∧ r < q + m ∧ (x &&& o r = s ∨ x ||| o r = s) := by
  intro m
  induction m with
  | zero => intro q; exact ⟨fun h => absurd h List.not_mem_nil, fun ⟨r, h1, h2, _⟩ => by omega⟩
  | succ m ih =>
    intro q
    rw [jl, List.mem_cons, List.mem_cons, ih]
    constructor
    · rintro (h | h | ⟨r, h1, h2, h3⟩)
      · exact ⟨q, Nat.le_refl _, by omega, Or.inl h.symm⟩
      · exact ⟨q, Nat.le_refl _, by omega, Or.inr h.symm⟩
      · exact ⟨r, by omega, by omega, h3⟩
    · rintro ⟨r, h1, h2, h3⟩
      by_cases hr : r = q
      · subst hr; exact h3.elim (fun z => Or.inl z.symm) (fun z => Or.inr (Or.inl z.symm))
      · exact Or.inr (Or.inr ⟨r, by omega, by omega, h3⟩)
theorem join_in {W i j N e x : Nat} {K : Int32 → (Nat → Int32) → (Nat → Int32) → Option (Int32 × (Nat → Int32) × (Nat → Int32))} {g0 : SG} (h9 : W ≤ 9) (hN : i + j = N) (hN0 : 1 ≤ N) (hN1 : N < 100) (he : e ≤ g0.1) (hx : x < 2 ^ W) : ∀ (m q n : Nat) (c : Int32) (fl fo : Nat → Int32) (g : SG), q + m = e → m < n → REP W c fl fo g → INV W g → EXT g0 g → ∃ c' fl' fo', P_X1_join_72 (nI i) (nI j) (nI e) (nI x) K n (nI q) c fl fo = K c' fl' fo' ∧ REP W c' fl' fo' (nts N g (jl g0.2.2 x m q)) ∧ INV W (nts N g (jl g0.2.2 x m q)) ∧ EXT g0 (nts N g (jl g0.2.2 x m q)) := by
  intro m
  induction m with
  | zero =>
    intro q n c fl fo g hq hn hR hI hE
    obtain ⟨n, rfl⟩ : ∃ r, n = r + 1 := ⟨n - 1, by omega⟩
    have ⟨p1, p2⟩ := p9 h9
    have hle := hI.le
    have := hE.1
    rw [P_X1_join_72, if_pos (nI_le (by omega) (by omega))]
    exact ⟨c, fl, fo, rfl, hR, hI, hE⟩
  | succ m ih =>
    intro q n c fl fo g hq hn hR hI hE
    obtain ⟨n, rfl⟩ : ∃ r, n = r + 1 := ⟨n - 1, by omega⟩
    have ⟨p1, p2⟩ := p9 h9
    have hle := hI.le
    have hEe := hE.1
    have hoq : g.2.2 q = g0.2.2 q := hE.2.1 q (by omega)
    have hol : g0.2.2 q < 2 ^ W := by rw [← hoq]; exact hI.2.2 q (by omega)
    have ha : x &&& g0.2.2 q < 2 ^ W := Nat.lt_of_le_of_lt Nat.and_le_left hx
    have ho : x ||| g0.2.2 q < 2 ^ W := Nat.or_lt_two_pow hx hol
    rw [P_X1_join_72, if_neg (nI_ge (by omega) (by omega)), at_in fo (show q < 512 by omega) (by decide), Option.bind_some, hR.2.2 q (by omega), hoq, nI_add, hN, nx_and, nx_or]
    obtain ⟨c1, fl1, fo1, a1, a2⟩ := note_c h9 hR hI hN1 ha
    have I1 := nt_inv (N := N) (by omega) hI ha
    have E1 := hE.trans (nt_ext N g (x &&& g0.2.2 q))
    rw [a1, Option.bind_some]
    obtain ⟨c2, fl2, fo2, b1, b2⟩ := note_c h9 a2 I1 hN1 ho
    have I2 := nt_inv (N := N) (by omega) I1 ho
    have E2 := E1.trans (nt_ext N _ (x ||| g0.2.2 q))
    rw [b1, Option.bind_some, nI_1]
    exact ih (q + 1) n c2 fl2 fo2 _ (by omega) (by omega) b2 I2 E2
/-- start's rows, as numbers -/
def jo (o st : Nat → Nat) (i j : Nat) : Nat → Nat → List Nat
  | 0, _ => []
  | m + 1, p => jl o (o p) (st (j + 1) - (if i = j then p + 1 else st j)) (if i = j then p + 1 else st j) ++ jo o st i j m (p + 1)
theorem mem_jo {o st : Nat → Nat} {i j s : Nat} : ∀ (m p : Nat), s ∈ jo o st i j m p ↔ ∃ r, p ≤ r ∧ r < p + m ∧ ∃ q, (if i = j then r + 1 else st j) ≤ q ∧ q < st (j + 1) ∧ (o r &&& o q = s ∨ o r ||| o q = s) := by
  intro m
  induction m with
  | zero => intro p; exact ⟨fun h => absurd h List.not_mem_nil, fun ⟨r, h1, h2, _⟩ => by omega⟩
  | succ m ih =>
    intro p
    rw [jo, List.mem_append, mem_jl, ih]
    constructor
    · rintro (⟨q, h1, h2, h3⟩ | ⟨r, h1, h2, h3⟩)
      · exact ⟨p, Nat.le_refl _, by omega, q, h1, by omega, h3⟩
      · exact ⟨r, by omega, by omega, h3⟩
    · rintro ⟨r, h1, h2, q, h3, h4, h5⟩
      by_cases hr : r = p
      · subst hr; exact Or.inl ⟨q, h3, by omega, h5⟩
      · exact Or.inr ⟨r, by omega, by omega, q, h3, h4, h5⟩
theorem join_out {W i j N : Nat} {fs : Nat → Int32} {st : Nat → Nat} {g0 : SG} (h9 : W ≤ 9) (hN : i + j = N) (hj0 : 1 ≤ j) (hj : j < 33) (hN0 : 1 ≤ N) (hN1 : N < 100) (hs1 : ∀ r, r < 34 → r ≤ N → 1 ≤ r → fs r = nI (st r)) (hj1 : j + 1 ≤ N) (he : st (i + 1) ≤ g0.1) (he2 : st (j + 1) ≤ g0.1) (hjj : st j ≤ st (j + 1)) : ∀ (m p n : Nat) (c : Int32) (fl fo : Nat → Int32) (g : SG), p + m = st (i + 1) → m < n → REP W c fl fo g → INV W g → EXT g0 g → ∃ c' fl' fo', P_X1_join_33 (nI i) (nI j) fs (nI (st (i + 1))) (nI (st (j + 1))) n (nI p) c fl fo = some (c', fl', fo') ∧ REP W c' fl' fo' (nts N g (jo g0.2.2 st i j m p)) ∧ INV W (nts N g (jo g0.2.2 st i j m p)) ∧ EXT g0 (nts N g (jo g0.2.2 st i j m p)) := by
  intro m
  induction m with
  | zero =>
    intro p n c fl fo g hq hn hR hI hE
    obtain ⟨n, rfl⟩ : ∃ r, n = r + 1 := ⟨n - 1, by omega⟩
    have ⟨p1, p2⟩ := p9 h9
    have hle := hI.le
    have := hE.1
    rw [P_X1_join_33, if_pos (nI_le (by omega) (by omega))]
    exact ⟨c, fl, fo, rfl, hR, hI, hE⟩
  | succ m ih =>
    intro p n c fl fo g hq hn hR hI hE
    obtain ⟨n, rfl⟩ : ∃ r, n = r + 1 := ⟨n - 1, by omega⟩
    have ⟨p1, p2⟩ := p9 h9
    have hle := hI.le
    have hEe := hE.1
    have hop : g.2.2 p = g0.2.2 p := hE.2.1 p (by omega)
    have hol : g0.2.2 p < 2 ^ W := by rw [← hop]; exact hI.2.2 p (by omega)
    rw [P_X1_join_33, if_neg (nI_ge (by omega) (by omega)), at_in fo (show p < 512 by omega) (by decide), Option.bind_some, hR.2.2 p (by omega), hop]
    simp only [jn]
    rw [nI_1]
    have go : ∀ q0, q0 ≤ st (j + 1) → q0 = (if i = j then p + 1 else st j) → ∃ c' fl' fo', P_X1_join_72 (nI i) (nI j) (nI (st (j + 1))) (nI (g0.2.2 p)) (fun x120_o_found x120_f_length x120_f_order => P_X1_join_33 (nI i) (nI j) fs (nI (st (i + 1))) (nI (st (j + 1))) n (nI (p + 1)) x120_o_found x120_f_length x120_f_order) QF (nI q0) c fl fo = some (c', fl', fo') ∧ REP W c' fl' fo' (nts N g (jo g0.2.2 st i j (m + 1) p)) ∧ INV W (nts N g (jo g0.2.2 st i j (m + 1) p)) ∧ EXT g0 (nts N g (jo g0.2.2 st i j (m + 1) p)) := by
      intro q0 hq0 eq0
      obtain ⟨c1, fl1, fo1, a1, a2, a3, a4⟩ := join_in (K := fun x120_o_found x120_f_length x120_f_order => P_X1_join_33 (nI i) (nI j) fs (nI (st (i + 1))) (nI (st (j + 1))) n (nI (p + 1)) x120_o_found x120_f_length x120_f_order) h9 hN hN0 hN1 he2 hol (st (j + 1) - q0) q0 QF c fl fo g (by omega) (by unfold QF; omega) hR hI hE
      rw [a1, jo, nts_app, ← eq0]
      exact ih (p + 1) n c1 fl1 fo1 _ (by omega) (by omega) a2 a3 a4
    by_cases hij : i = j
    · rw [if_pos (by rw [hij])]
      refine go (p + 1) ?_ (by rw [if_pos hij])
      rw [← hij]; omega
    · rw [if_neg (fun z => hij ((nI_eq (by omega) (by omega)).mp z)), at_in fs (show j < 34 by omega) (by decide), Option.bind_some, hs1 j (by omega) (by omega) (by omega)]
      exact go (st j) hjj (by rw [if_neg hij])
theorem join_c {W i j N : Nat} {fs : Nat → Int32} {st : Nat → Nat} {g0 : SG} (h9 : W ≤ 9) (hN : i + j = N) (hi0 : 1 ≤ i) (hij : i ≤ j) (hj : j < 33) (hN1 : N < 100) (hs1 : ∀ r, r < 34 → r ≤ N → 1 ≤ r → fs r = nI (st r)) (he : st (i + 1) ≤ g0.1) (he2 : st (j + 1) ≤ g0.1) (hii : st i ≤ st (i + 1)) (hjj : st j ≤ st (j + 1)) (c : Int32) (fl fo : Nat → Int32) (g : SG) (hR : REP W c fl fo g) (hI : INV W g) (hE : EXT g0 g) : ∃ c' fl' fo', P_X1_join (nI i) (nI j) c fl fo fs = some (c', fl', fo') ∧ REP W c' fl' fo' (nts N g (jo g0.2.2 st i j (st (i + 1) - st i) (st i))) ∧ INV W (nts N g (jo g0.2.2 st i j (st (i + 1) - st i) (st i))) ∧ EXT g0 (nts N g (jo g0.2.2 st i j (st (i + 1) - st i) (st i))) := by
  have ⟨p1, p2⟩ := p9 h9
  have hle := hI.le
  have hEe := hE.1
  unfold P_X1_join
  rw [nI_1, nI_1, at_in fs (show i + 1 < 34 by omega) (by decide), Option.bind_some, at_in fs (show j + 1 < 34 by omega) (by decide), Option.bind_some, at_in fs (show i < 34 by omega) (by decide), Option.bind_some, hs1 (i + 1) (by omega) (by omega) (by omega), hs1 (j + 1) (by omega) (by omega) (by omega), hs1 i (by omega) (by omega) (by omega)]
  exact join_out h9 hN (by omega) hj (by omega) hN1 hs1 (by omega) he he2 hjj (st (i + 1) - st i) (st i) QF c fl fo g (by omega) (by unfold QF; omega) hR hI hE
