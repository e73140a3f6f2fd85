/-! the model's findAll -/
theorem findm_in {W M c : Nat} {p1 : Int32} {mv : Nat → Int32} {f : Nat → Nat} {k : Nat} {vs : Nat → Nat} {K : Int32 → (Nat → Int32) → (Nat → Int32) → Option (Int32 × (Nat → Int32) × (Nat → Int32))} (h : MT k vs W mv) (hc : c < k) : ∀ (m i n : Nat) (cc : Int32) (ll lo : Nat → Int32) (g : SG), i + m = vs c → m < n → REP W cc ll lo g → INV W g → ∃ c' l' o', P_X11_findAll_39 (nI W) mv (nI c) K n (nI i) cc ll lo = K c' l' o' ∧ REP W c' l' o' (nts 1 g (sgl (fun v => mk vs W c v) m i)) ∧ INV W (nts 1 g (sgl (fun v => mk vs W c v) m i)) := by
  have h3 := h.1.k3
  have h9 := (h.1.pos c).2
  intro m
  induction m with
  | zero =>
    intro i n cc ll lo g hi hn hR hI
    obtain ⟨n, rfl⟩ : ∃ r, n = r + 1 := ⟨n - 1, by omega⟩
    rw [P_X11_findAll_39, ck_in _ (show c < 3 by omega) (by decide), nI_clamp (by omega), h.2 c (by omega), if_pos (nI_le (by omega) (by omega))]
    exact ⟨cc, ll, lo, rfl, hR, hI⟩
  | succ m ih =>
    intro i n cc ll lo g hi hn hR hI
    obtain ⟨n, rfl⟩ : ∃ r, n = r + 1 := ⟨n - 1, by omega⟩
    have l2 := mk_lt vs W c i
    obtain ⟨c1, ll1, lo1, a1, a2⟩ := find_m (N := 1) h.1.le hR hI (by decide) l2
    have I1 := nt_inv (N := 1) (by decide) hI l2
    rw [P_X11_findAll_39, ck_in _ (show c < 3 by omega) (by decide), nI_clamp (by omega), h.2 c (by omega), if_neg (nI_ge (by omega) (by omega)), worldsOf_eq h (by omega) (by omega), Option.bind_some, e1, a1, Option.bind_some, nI_add]
    exact ih (i + 1) n c1 ll1 lo1 _ (by omega) (by omega) a2 I1
theorem findm_out {k W : Nat} {vs : Nat → Nat} {mv : Nat → Int32} {K : Int32 → (Nat → Int32) → (Nat → Int32) → Option (Int32 × (Nat → Int32) × (Nat → Int32))} (h : MT k vs W mv) : ∀ (m c n : Nat) (cc : Int32) (ll lo : Nat → Int32) (g : SG), c + m = k → m < n → REP W cc ll lo g → INV W g → ∃ c' l' o', P_X11_findAll_29 (nI k) (nI W) mv K n (nI c) cc ll lo = K c' l' o' ∧ REP W c' l' o' (nts 1 g (ggl vs (fun c v => mk vs W c v) m c)) ∧ INV W (nts 1 g (ggl vs (fun c v => mk vs W c v) m c)) := by
  have h3 := h.1.k3
  intro m
  induction m with
  | zero =>
    intro c n cc ll lo g hi hn hR hI
    obtain ⟨n, rfl⟩ : ∃ r, n = r + 1 := ⟨n - 1, by omega⟩
    rw [P_X11_findAll_29, if_pos (nI_le (by omega) (by omega))]
    exact ⟨cc, ll, lo, rfl, hR, hI⟩
  | succ m ih =>
    intro c n cc ll lo g hi hn hR hI
    obtain ⟨n, rfl⟩ : ∃ r, n = r + 1 := ⟨n - 1, by omega⟩
    have h9 := (h.1.pos c).2
    rw [P_X11_findAll_29, if_neg (nI_ge (by omega) (by omega)), jn]
    obtain ⟨c1, l1, o1, a1, a2, a3⟩ := findm_in (M := 0) (p1 := 0) (f := fun _ => 0) (K := fun x66_o_foundMany x66_f_length x66_f_found => P_X11_findAll_29 (nI k) (nI W) mv K n (nI c + 1) x66_o_foundMany x66_f_length x66_f_found) h (show c < k by omega) (vs c) 0 QF cc ll lo g (by omega) (by unfold QF; omega) hR hI
    have a1' : P_X11_findAll_39 (nI W) mv (nI c) _ QF (0 : Int32) cc ll lo = _ := a1
    rw [a1', nI_1, ggl, nts_app]
    exact ih (c + 1) n c1 l1 o1 _ (by omega) (by omega) a2 a3
theorem words_m {W nw : Nat} {wl : Nat → Nat} {mws mw : Nat → Int32} {K : Int32 → (Nat → Int32) → (Nat → Int32) → Option (Int32 × (Nat → Int32) × (Nat → Int32))} (h9 : W ≤ 9) (h0 : mws 0 = nI nw) (hw : WD W nw wl mw) : ∀ (m i n : Nat) (cc : Int32) (ll lo : Nat → Int32) (g : SG), i + m = nw → m < n → REP W cc ll lo g → INV W g → ∃ c' l' o', P_X11_findAll_74 mws mw K n (nI i) cc ll lo = K c' l' o' ∧ REP W c' l' o' (nts 1 g (sgl wl m i)) ∧ INV W (nts 1 g (sgl wl m i)) := by
  have hn3 := hw.1
  have q0 : ∀ (a : Option (Int32 × (Nat → Int32) × (Nat → Int32))), ck 0 3 a = a := fun a => ck_in (j := 0) (n := 3) a (by decide) (by decide)
  have q1 : (0 : Int32).toNatClampNeg = 0 := nI_clamp (n := 0) (by decide)
  intro m
  induction m with
  | zero =>
    intro i n cc ll lo g hi hn hR hI
    obtain ⟨n, rfl⟩ : ∃ r, n = r + 1 := ⟨n - 1, by omega⟩
    rw [P_X11_findAll_74, q0, q1, h0, if_pos (nI_le (by omega) (by omega))]
    exact ⟨cc, ll, lo, rfl, hR, hI⟩
  | succ m ih =>
    intro i n cc ll lo g hi hn hR hI
    obtain ⟨n, rfl⟩ : ∃ r, n = r + 1 := ⟨n - 1, by omega⟩
    obtain ⟨l1, l2⟩ := hw.2 i (by omega)
    obtain ⟨c1, ll1, lo1, a1, a2⟩ := find_m (N := 1) h9 hR hI (by decide) l2
    have I1 := nt_inv (N := 1) (by decide) hI l2
    rw [P_X11_findAll_74, q0, q1, h0, if_neg (nI_ge (by omega) (by omega)), ck_in _ (show i < 9 by omega) (by decide), nI_clamp (by omega), l1, e1, a1, Option.bind_some, nI_add]
    exact ih (i + 1) n c1 ll1 lo1 _ (by omega) (by omega) a2 I1
theorem signs_mem_m {k W nw : Nat} {vs wl : Nat → Nat} {mo : Option Nat} {s : Nat} : s ∈ ggl vs (fun c v => mk vs W c v) k 0 ++ (sgl wl nw 0 ++ mol mo) ↔ GS k vs W nw wl mo s := by
  rw [List.mem_append, List.mem_append, mem_ggl, mem_sgl, mem_mol, GS]
  constructor
  · rintro (⟨r, h1, h2, i, h4, h5⟩ | ⟨i, h1, h2, h3⟩ | q)
    · exact Or.inl ⟨r, i, by omega, h4, h5⟩
    · exact Or.inr (Or.inl ⟨i, by omega, h3⟩)
    · exact Or.inr (Or.inr q)
  · rintro (⟨c, v, h1, h2, h4⟩ | ⟨i, h1, h2⟩ | q)
    · exact Or.inl ⟨c, Nat.zero_le _, by omega, v, h2, h4⟩
    · exact Or.inr (Or.inl ⟨i, Nat.zero_le _, by omega, h2⟩)
    · exact Or.inr (Or.inr q)
/-- what the model joins -/
def pl (t o : Nat → Nat) (N x : Nat) : Nat → Nat → List Nat
  | 0, _ => []
  | m + 1, j => (if t x + t (o j) = N then [x &&& o j, x ||| o j] else []) ++ pl t o N x m (j + 1)
theorem mem_pl {t o : Nat → Nat} {N x s : Nat} : ∀ (m j : Nat), s ∈ pl t o N x m j ↔ ∃ r, j ≤ r ∧ r < j + m ∧ t x + t (o r) = N ∧ (x &&& o r = s ∨ x ||| o r = s) := by
  intro m
  induction m with
  | zero => intro j; exact ⟨fun h => absurd h List.not_mem_nil, fun ⟨r, h1, h2, _⟩ => by omega⟩
  | succ m ih =>
    intro j
    rw [pl, List.mem_append, ih]
    constructor
    · rintro (h | ⟨r, h1, h2, h3⟩)
      · by_cases e : t x + t (o j) = N
        · rw [if_pos e, List.mem_cons, List.mem_singleton] at h
          exact ⟨j, Nat.le_refl _, by omega, e, h.elim (fun z => Or.inl z.symm) (fun z => Or.inr z.symm)⟩
        · rw [if_neg e] at h; exact absurd h List.not_mem_nil
      · exact ⟨r, by omega, by omega, h3⟩
    · rintro ⟨r, h1, h2, h3, h4⟩
      by_cases hr : r = j
      · subst hr
        refine Or.inl ?_
        rw [if_pos h3, List.mem_cons, List.mem_singleton]
        exact h4.elim (fun z => Or.inl z.symm) (fun z => Or.inr z.symm)
      · exact Or.inr ⟨r, by omega, by omega, h3, h4⟩
def pm (t o : Nat → Nat) (N : Nat) : Nat → Nat → List Nat
  | 0, _ => []
  | m + 1, i => pl t o N (o i) (i + 1) 0 ++ pm t o N m (i + 1)
theorem mem_pm {t o : Nat → Nat} {N s : Nat} : ∀ (m i : Nat), s ∈ pm t o N m i ↔ ∃ r, i ≤ r ∧ r < i + m ∧ ∃ j, j ≤ r ∧ t (o r) + t (o j) = N ∧ (o r &&& o j = s ∨ o r ||| o j = s) := by
  intro m
  induction m with
  | zero => intro i; exact ⟨fun h => absurd h List.not_mem_nil, fun ⟨r, h1, h2, _⟩ => by omega⟩
  | succ m ih =>
    intro i
    rw [pm, List.mem_append, mem_pl, ih]
    constructor
    · rintro (⟨j, h1, h2, h3⟩ | ⟨r, h1, h2, h3⟩)
      · exact ⟨i, Nat.le_refl _, by omega, j, by omega, h3⟩
      · exact ⟨r, by omega, by omega, h3⟩
    · rintro ⟨r, h1, h2, j, h3, h4⟩
      by_cases hr : r = i
      · subst hr; exact Or.inl ⟨j, Nat.zero_le _, by omega, h4⟩
      · exact Or.inr ⟨r, by omega, by omega, j, h3, h4⟩
theorem pm_iff {W n : Nat} {G : Nat → Prop} {g : SG} (hG : ∀ s, G s → s < 2 ^ W) (h : LV W G n g) (hn : 1 ≤ n) {s : Nat} : s ∈ pm g.2.1 g.2.2 (n + 1) g.1 0 ↔ TN G n s := by
  rw [mem_pm]
  constructor
  · rintro ⟨r, h1, h2, j, h3, h4, h5⟩
    have c1 := h.1.2.2 r (by omega)
    have c2 := h.1.2.2 j (by omega)
    have n1 : g.2.1 (g.2.2 r) ≠ 0 := (h.1.2.1 _ c1).mpr ⟨r, by omega, rfl⟩
    have n2 : g.2.1 (g.2.2 j) ≠ 0 := (h.1.2.1 _ c2).mpr ⟨j, by omega, rfl⟩
    rw [h.2.1 _ c1] at n1 h4
    rw [h.2.1 _ c2] at n2 h4
    exact Or.inr ⟨_, _, n1, n2, h4, h5⟩
  · rintro (⟨z, -⟩ | ⟨x, y, x0, y0, hxy, hop⟩)
    · omega
    have lx := T_lt hG n x x0
    have ly := T_lt hG n y y0
    have tx := h.2.1 x lx
    have ty := h.2.1 y ly
    obtain ⟨p, p1, p2⟩ := (h.1.2.1 x lx).mp (by rw [tx]; exact x0)
    obtain ⟨q, q1, q2⟩ := (h.1.2.1 y ly).mp (by rw [ty]; exact y0)
    rcases Nat.le_total q p with z | z
    · exact ⟨p, by omega, by omega, q, z, by rw [p2, q2, tx, ty]; exact hxy, by rw [p2, q2]; exact hop⟩
    · refine ⟨q, by omega, by omega, p, z, by rw [p2, q2, tx, ty]; omega, ?_⟩
      rw [p2, q2, Nat.and_comm, Nat.or_comm]
      exact hop
theorem pm_lt {W n : Nat} {G : Nat → Prop} {g : SG} (hG : ∀ s, G s → s < 2 ^ W) (h : LV W G n g) (hn : 1 ≤ n) : ∀ s ∈ pm g.2.1 g.2.2 (n + 1) g.1 0, s < 2 ^ W := by
  intro s hs
  obtain ⟨r, h1, h2, j, h3, h4, h5⟩ := (mem_pm _ _).mp hs
  have c1 := h.1.2.2 r (by omega)
  have c2 := h.1.2.2 j (by omega)
  rcases h5 with q3 | q3
  · rw [← q3]; exact Nat.lt_of_le_of_lt Nat.and_le_left c1
  · rw [← q3]; exact Nat.or_lt_two_pow c1 c2
theorem fpair_in {W N i : Nat} {K : Int32 → (Nat → Int32) → (Nat → Int32) → Option (Int32 × (Nat → Int32) × (Nat → Int32))} {g0 : SG} (h9 : W ≤ 9) (hN0 : 1 ≤ N) (hN1 : N < 100) (hI0 : INV W g0) (hi : i < g0.1) : ∀ (m j n : Nat) (c : Int32) (fl fo : Nat → Int32) (g : SG), j + m = i + 1 → m < n → REP W c fl fo g → INV W g → EXT g0 g → ∃ c' fl' fo', P_X11_findAll_159 (nI N) (nI i) K n (nI j) c fl fo = K c' fl' fo' ∧ REP W c' fl' fo' (nts N g (pl g0.2.1 g0.2.2 N (g0.2.2 i) m j)) ∧ INV W (nts N g (pl g0.2.1 g0.2.2 N (g0.2.2 i) m j)) ∧ EXT g0 (nts N g (pl g0.2.1 g0.2.2 N (g0.2.2 i) m j)) := by
  have ⟨p1, p2⟩ := p9 h9
  have hle0 := hI0.le
  intro m
  induction m with
  | zero =>
    intro j n c fl fo g hq hn hR hI hE
    obtain ⟨n, rfl⟩ : ∃ r, n = r + 1 := ⟨n - 1, by omega⟩
    rw [P_X11_findAll_159, if_pos (nI_lt (by omega) (by omega))]
    exact ⟨c, fl, fo, rfl, hR, hI, hE⟩
  | succ m ih =>
    intro j n c fl fo g hq hn hR hI hE
    obtain ⟨n, rfl⟩ : ∃ r, n = r + 1 := ⟨n - 1, by omega⟩
    have hle := hI.le
    have hEe := hE.1
    have hoi : g.2.2 i = g0.2.2 i := hE.2.1 i hi
    have hoj : g.2.2 j = g0.2.2 j := hE.2.1 j (by omega)
    have hli := hI0.2.2 i hi
    have hlj := hI0.2.2 j (by omega)
    have ni : g0.2.1 (g0.2.2 i) ≠ 0 := (hI0.2.1 _ hli).mpr ⟨i, hi, rfl⟩
    have nj : g0.2.1 (g0.2.2 j) ≠ 0 := (hI0.2.1 _ hlj).mpr ⟨j, by omega, rfl⟩
    have hti := hE.2.2 _ ni
    have htj := hE.2.2 _ nj
    obtain ⟨ri1, ri2⟩ := hR.2.1 _ hli
    obtain ⟨rj1, rj2⟩ := hR.2.1 _ hlj
    have ci : (nI i).toNatClampNeg = i := nI_clamp (by omega)
    have cj : (nI j).toNatClampNeg = j := nI_clamp (by omega)
    have fi : fo i = nI (g0.2.2 i) := by rw [hR.2.2 i (by omega), hoi]
    have fj : fo j = nI (g0.2.2 j) := by rw [hR.2.2 j (by omega), hoj]
    have coi : (nI (g0.2.2 i)).toNatClampNeg = g0.2.2 i := nI_clamp (by omega)
    have coj : (nI (g0.2.2 j)).toNatClampNeg = g0.2.2 j := nI_clamp (by omega)
    rw [P_X11_findAll_159, if_neg (nI_nlt (by omega) (by omega)), ci, cj, fi, fj, coi, coj, ck_in _ (show i < 512 by omega) (by decide), ck_in _ (show g0.2.2 i < 512 by omega) (by decide), ck_in _ (show j < 512 by omega) (by decide), ck_in _ (show g0.2.2 j < 512 by omega) (by decide), jn, ri1, rj1, hti, htj, nI_add, nI_1]
    rw [hti] at ri2
    rw [htj] at rj2
    by_cases e : g0.2.1 (g0.2.2 i) + g0.2.1 (g0.2.2 j) = N
    · have ha : g0.2.2 i &&& g0.2.2 j < 2 ^ W := Nat.lt_of_le_of_lt Nat.and_le_left hli
      have ho : g0.2.2 i ||| g0.2.2 j < 2 ^ W := Nat.or_lt_two_pow hli hlj
      rw [if_pos (by rw [e]), ck_in _ (show i < 512 by omega) (by decide), ck_in _ (show j < 512 by omega) (by decide), nx_and]
      obtain ⟨c1, fl1, fo1, a1, a2⟩ := find_m h9 hR hI hN1 ha
      have I1 := nt_inv (N := N) (by omega) hI ha
      have E1 := hE.trans (nt_ext N g (g0.2.2 i &&& g0.2.2 j))
      have E1e := E1.1
      have gi : fo1 i = nI (g0.2.2 i) := by rw [a2.2.2 i (by omega), E1.2.1 i hi]
      have gj : fo1 j = nI (g0.2.2 j) := by rw [a2.2.2 j (by omega), E1.2.1 j (by omega)]
      rw [a1, Option.bind_some, ck_in _ (show i < 512 by omega) (by decide), ck_in _ (show j < 512 by omega) (by decide)]
      dsimp only
      rw [gi, gj, nx_or]
      obtain ⟨c2, fl2, fo2, b1, b2⟩ := find_m h9 a2 I1 hN1 ho
      have I2 := nt_inv (N := N) (by omega) I1 ho
      have E2 := E1.trans (nt_ext N _ (g0.2.2 i ||| g0.2.2 j))
      rw [b1, Option.bind_some, pl, if_pos e, nts_app]
      exact ih (j + 1) n c2 fl2 fo2 _ (by omega) (by omega) b2 I2 E2
    · rw [if_neg (fun z => e ((nI_eq (by omega) (by omega)).mp z)), pl, if_neg e, List.nil_append]
      exact ih (j + 1) n c fl fo g (by omega) (by omega) hR hI hE
theorem fpair_out {W N : Nat} {K : Int32 → (Nat → Int32) → (Nat → Int32) → Option (Int32 × (Nat → Int32) × (Nat → Int32))} {g0 : SG} (h9 : W ≤ 9) (hN0 : 1 ≤ N) (hN1 : N < 100) (hI0 : INV W g0) : ∀ (m i n : Nat) (c : Int32) (fl fo : Nat → Int32) (g : SG), i + m = g0.1 → m < n → REP W c fl fo g → INV W g → EXT g0 g → ∃ c' fl' fo', P_X11_findAll_150 (nI N) (nI g0.1) K n (nI i) c fl fo = K c' fl' fo' ∧ REP W c' fl' fo' (nts N g (pm g0.2.1 g0.2.2 N m i)) := by
  have ⟨p1, p2⟩ := p9 h9
  have hle0 := hI0.le
  intro m
  induction m with
  | zero =>
    intro i n c fl fo g hq hn hR hI hE
    obtain ⟨n, rfl⟩ : ∃ r, n = r + 1 := ⟨n - 1, by omega⟩
    rw [P_X11_findAll_150, if_pos (nI_le (by omega) (by omega))]
    exact ⟨c, fl, fo, rfl, hR⟩
  | succ m ih =>
    intro i n c fl fo g hq hn hR hI hE
    obtain ⟨n, rfl⟩ : ∃ r, n = r + 1 := ⟨n - 1, by omega⟩
    rw [P_X11_findAll_150, if_neg (nI_ge (by omega) (by omega)), jn]
    obtain ⟨c1, fl1, fo1, a1, a2, a3, a4⟩ := fpair_in (K := fun x241_o_foundMany x241_f_length x241_f_found => P_X11_findAll_150 (nI N) (nI g0.1) K n (nI i + 1) x241_o_foundMany x241_f_length x241_f_found) h9 hN0 hN1 hI0 (show i < g0.1 by omega) (i + 1) 0 QF c fl fo g (by omega) (by unfold QF; omega) hR hI hE
    have a1' : P_X11_findAll_159 (nI N) (nI i) _ QF (0 : Int32) c fl fo = _ := a1
    rw [a1', nI_1, pm, nts_app]
    exact ih (i + 1) n c1 fl1 fo1 _ (by omega) (by omega) a2 a3 a4
theorem max_end {W n : Nat} {G : Nat → Prop} {g : SG} (hG : ∀ s, G s → s < 2 ^ W) (h : LV W G n g) (hC : CAP W G) (hn : 1 ≤ n) (hx : ∀ j, j < g.1 → 2 * g.2.1 (g.2.2 j) < n + 1) : ∀ s, s < 2 ^ W → T G n s = TF G s := by
  intro s hs
  have hh : ∀ x, 2 * T G n x < n + 1 := by
    intro x
    by_cases hx0 : T G n x = 0
    · rw [hx0]; omega
    · have lx := T_lt hG n x hx0
      obtain ⟨j, h1, h2⟩ := (h.1.2.1 x lx).mp (by rw [h.2.1 x lx]; exact hx0)
      have := hx j h1
      rw [h2, h.2.1 x lx] at this
      exact this
  rw [TF]
  by_cases hn27 : n ≤ 27
  · obtain ⟨d, hd⟩ : ∃ d, 27 = n + d := ⟨27 - n, by omega⟩
    rw [hd, T_end hh hn d s]
  · exact hC n (by omega) s hs
theorem find_lv {W : Nat} {G : Nat → Prop} (h9 : W ≤ 9) (hG : ∀ s, G s → s < 2 ^ W) (hC : CAP W G) : ∀ (m n f : Nat) (c : Int32) (fl fo : Nat → Int32) (g : SG), n + m = 60 → m < f → 1 ≤ n → REP W c fl fo g → LV W G n g → ∃ c' fl' fo', P_X11_findAll_113 f (nI (n + 1)) c fl fo = some (c', fl', fo') ∧ ∀ s, s < 2 ^ W → fl' s = nI (TF G s) := by
  have ⟨p1, p2⟩ := p9 h9
  intro m
  induction m with
  | zero =>
    intro n f c fl fo g hn hf hn1 hR hL
    obtain ⟨f, rfl⟩ : ∃ r, f = r + 1 := ⟨f - 1, by omega⟩
    have hle := hL.1.le
    have hx : ∀ j, j < g.1 → 2 * g.2.1 (g.2.2 j) < n + 1 := fun j hj => by
      have lj := hL.1.2.2 j hj
      rw [hL.2.1 _ lj, hC n (by omega) _ lj]
      have := T_le G 27 (g.2.2 j)
      omega
    have fin : ∀ s, s < 2 ^ W → fl s = nI (TF G s) := fun s hs => by rw [(hR.2.1 s hs).1, hL.2.1 s hs, max_end hG hL hC hn1 hx s hs]
    rw [P_X11_findAll_113, hR.1]
    by_cases h0 : g.1 = 0
    · rw [if_pos (by rw [h0]; decide)]
      exact ⟨_, fl, fo, rfl, fin⟩
    · have lj := hL.1.2.2 (g.1 - 1) (by omega)
      obtain ⟨r1, r2⟩ := hR.2.1 _ lj
      rw [if_neg (nI_nle (by omega) (by omega)), e1, pk_sub (by omega), nI_clamp (show g.1 - 1 < 2 ^ 31 by omega), ck_in _ (show g.1 - 1 < 512 by omega) (by decide), hR.2.2 (g.1 - 1) (by omega), nI_clamp (show g.2.2 (g.1 - 1) < 2 ^ 31 by omega), ck_in _ (show g.2.2 (g.1 - 1) < 512 by omega) (by decide), r1, e2, pk_mul, if_pos (nI_lt (hx _ (by omega)) (by omega))]
      exact ⟨_, fl, fo, rfl, fin⟩
  | succ m ih =>
    intro n f c fl fo g hn hf hn1 hR hL
    obtain ⟨f, rfl⟩ : ∃ r, f = r + 1 := ⟨f - 1, by omega⟩
    have hle := hL.1.le
    rw [P_X11_findAll_113, hR.1]
    by_cases h0 : g.1 = 0
    · rw [if_pos (by rw [h0]; decide)]
      refine ⟨_, fl, fo, rfl, fun s hs => ?_⟩
      rw [(hR.2.1 s hs).1, hL.2.1 s hs, max_end hG hL hC hn1 (fun j hj => by omega) s hs]
    · have lj := hL.1.2.2 (g.1 - 1) (by omega)
      obtain ⟨r1, r2⟩ := hR.2.1 _ lj
      rw [if_neg (nI_nle (by omega) (by omega)), e1, pk_sub (by omega), nI_clamp (show g.1 - 1 < 2 ^ 31 by omega), ck_in _ (show g.1 - 1 < 512 by omega) (by decide), hR.2.2 (g.1 - 1) (by omega), nI_clamp (show g.2.2 (g.1 - 1) < 2 ^ 31 by omega), ck_in _ (show g.2.2 (g.1 - 1) < 512 by omega) (by decide), r1, e2, pk_mul]
      by_cases hmx : 2 * g.2.1 (g.2.2 (g.1 - 1)) < n + 1
      · rw [if_pos (nI_lt hmx (by omega))]
        refine ⟨_, fl, fo, rfl, fun s hs => ?_⟩
        have hx : ∀ j, j < g.1 → 2 * g.2.1 (g.2.2 j) < n + 1 := fun j hj => by
          have := hL.2.2 j (g.1 - 1) (by omega) (by omega)
          omega
        rw [(hR.2.1 s hs).1, hL.2.1 s hs, max_end hG hL hC hn1 hx s hs]
      · rw [if_neg (nI_nlt (by omega) (by omega)), jn]
        obtain ⟨c1, fl1, fo1, a1, a2⟩ := fpair_out (K := fun x247_o_foundMany x247_f_length x247_f_found => P_X11_findAll_113 f (nI (n + 1) + nI 1) x247_o_foundMany x247_f_length x247_f_found) (N := n + 1) h9 (by omega) (by omega) hL.1 g.1 0 QF (nI g.1) fl fo g (by omega) (by unfold QF; omega) (by rw [← hR.1]; exact hR) hL.1 (EXT.refl g)
        rw [e0, a1, nI_add]
        exact ih (n + 1) f c1 fl1 fo1 _ (by omega) (by omega) (by omega) a2 (LV_step hL (pm_lt hG hL hn1) (fun s _ _ => pm_iff hG hL hn1))
theorem find_clear {W : Nat} {K : (Nat → Int32) → Option (Int32 × (Nat → Int32) × (Nat → Int32))} : ∀ (m i f : Nat) (fl : Nat → Int32), i + m = 512 → m < f → (∀ s, s < i → fl s = 0) → ∃ fl', P_X11_findAll_2 K f (nI i) fl = K fl' ∧ ∀ s, s < 512 → fl' s = 0 := by
  intro m
  induction m with
  | zero =>
    intro i f fl hi hf h
    obtain ⟨f, rfl⟩ : ∃ r, f = r + 1 := ⟨f - 1, by omega⟩
    rw [P_X11_findAll_2, e512, if_pos (nI_le (by omega) (by omega))]
    exact ⟨fl, rfl, fun s hs => h s (by omega)⟩
  | succ m ih =>
    intro i f fl hi hf h
    obtain ⟨f, rfl⟩ : ∃ r, f = r + 1 := ⟨f - 1, by omega⟩
    rw [P_X11_findAll_2, e512, if_neg (nI_ge (by omega) (by decide)), ck_in _ (show i < 512 by omega) (by decide), nI_clamp (by omega), nI_1]
    refine ih (i + 1) f _ (by omega) (by omega) (fun s hs => ?_)
    by_cases q : s = i
    · subst q; rw [pk_us]
    · rw [pk_un q]; exact h s (by omega)
theorem findAll_m {k W nw : Nat} {vs wl : Nat → Nat} {mv mws mw : Nat → Int32} {mo : Option Nat} (h : MT k vs W mv) (h0 : mws 0 = nI nw) (hw : WD W nw wl mw) (hm : MO W mo) (cc : Int32) (ll lo : Nat → Int32) : ∃ c' l' o', P_X11_findAll (toI mo) (nI k) (nI W) cc mv mws mw ll lo = some (c', l', o') ∧ ∀ s, s < 2 ^ W → l' s = nI (TF (GS k vs W nw wl mo) s) := by
  have ⟨p1, p2⟩ := p9 h.1.le
  have hG := GS_lt (k := k) (vs := vs) hw hm
  have hC := CAP_GS (mo := mo) h.1 hw hm
  unfold P_X11_findAll
  rw [jn]
  obtain ⟨l1, a1, a2⟩ := find_clear (W := W) (K := fun x22_f_length => jn (fun x72_o_foundMany x72_f_length x72_f_found => jn (fun x101_o_foundMany x101_f_length x101_f_found => jn (fun x111_o_foundMany x111_f_length x111_f_found => P_X11_findAll_113 QF 2 x111_o_foundMany x111_f_length x111_f_found) fun j111 => if toI mo < 0 then j111 x101_o_foundMany x101_f_length x101_f_found else (P_X11_find (toI mo) 1 x101_o_foundMany x101_f_length x101_f_found).bind fun z_108 => j111 z_108.1 z_108.2.1 z_108.2.2) fun k101 => P_X11_findAll_74 mws mw k101 QF 0 x72_o_foundMany x72_f_length x72_f_found) fun k72 => P_X11_findAll_29 (nI k) (nI W) mv k72 QF 0 0 x22_f_length lo) 512 0 QF ll (by omega) (by unfold QF; omega) (fun s hs => by omega)
  have a1' : P_X11_findAll_2 _ QF (0 : Int32) ll = _ := a1
  rw [a1', jn]
  have hR0 : REP W 0 l1 lo g0 := ⟨rfl, fun s hs => ⟨a2 s (by omega), by show (0 : Nat) < 100; decide⟩, fun j hj => absurd hj (Nat.not_lt_zero j)⟩
  obtain ⟨c2, l2, o2, b1, b2, b3⟩ := findm_out (K := fun x72_o_foundMany x72_f_length x72_f_found => jn (fun x101_o_foundMany x101_f_length x101_f_found => jn (fun x111_o_foundMany x111_f_length x111_f_found => P_X11_findAll_113 QF 2 x111_o_foundMany x111_f_length x111_f_found) fun j111 => if toI mo < 0 then j111 x101_o_foundMany x101_f_length x101_f_found else (P_X11_find (toI mo) 1 x101_o_foundMany x101_f_length x101_f_found).bind fun z_108 => j111 z_108.1 z_108.2.1 z_108.2.2) fun k101 => P_X11_findAll_74 mws mw k101 QF 0 x72_o_foundMany x72_f_length x72_f_found) h k 0 QF 0 l1 lo g0 (by omega) (by have := h.1.k3; unfold QF; omega) hR0 (LV_0 W (fun _ => False)).1
  have b1' : P_X11_findAll_29 (nI k) (nI W) mv _ QF (0 : Int32) 0 l1 lo = _ := b1
  rw [b1', jn]
  obtain ⟨c3, l3, o3, d1, d2, d3⟩ := words_m (K := fun x101_o_foundMany x101_f_length x101_f_found => jn (fun x111_o_foundMany x111_f_length x111_f_found => P_X11_findAll_113 QF 2 x111_o_foundMany x111_f_length x111_f_found) fun j111 => if toI mo < 0 then j111 x101_o_foundMany x101_f_length x101_f_found else (P_X11_find (toI mo) 1 x101_o_foundMany x101_f_length x101_f_found).bind fun z_108 => j111 z_108.1 z_108.2.1 z_108.2.2) h.1.le h0 hw nw 0 QF c2 l2 o2 _ (by omega) (by have := hw.1; unfold QF; omega) b2 b3
  have d1' : P_X11_findAll_74 mws mw _ QF (0 : Int32) c2 l2 o2 = _ := d1
  rw [d1', jn]
  have hL := LV_1 (W := W) (G := GS k vs W nw wl mo) (L := ggl vs (fun c v => mk vs W c v) k 0 ++ (sgl wl nw 0 ++ mol mo)) hG (fun s => signs_mem_m)
  rw [nts_app, nts_app] at hL
  cases mo with
  | none =>
    rw [if_pos (show toI none < 0 by decide)]
    exact find_lv h.1.le hG hC 59 1 QF c3 l3 o3 _ (by omega) (by unfold QF; omega) (by omega) d2 hL
  | some s =>
    have hs := hm s rfl
    obtain ⟨c4, l4, o4, f1, f2⟩ := find_m (N := 1) h.1.le d2 d3 (by decide) hs
    have f1' : P_X11_find (toI (some s)) 1 c3 l3 o3 = _ := f1
    rw [if_neg (show ¬ toI (some s) < 0 from nI_pos (by omega)), f1', Option.bind_some]
    exact find_lv h.1.le hG hC 59 1 QF c4 l4 o4 _ (by omega) (by unfold QF; omega) (by omega) f2 hL
