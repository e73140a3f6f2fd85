/-! the class's levels -/
def jm (o st : Nat → Nat) (N : Nat) : Nat → Nat → List Nat
  | 0, _ => []
  | m + 1, i => jo o st i (N - i) (st (i + 1) - st i) (st i) ++ jm o st N m (i + 1)
theorem mem_jm {o st : Nat → Nat} {N s : Nat} : ∀ (m i : Nat), s ∈ jm o st N m i ↔ ∃ r, i ≤ r ∧ r < i + m ∧ s ∈ jo o st r (N - r) (st (r + 1) - st r) (st r) := by
  intro m
  induction m with
  | zero => intro i; exact ⟨fun h => absurd h List.not_mem_nil, fun ⟨r, h1, h2, _⟩ => by omega⟩
  | succ m ih =>
    intro i
    rw [jm, List.mem_append, ih]
    constructor
    · rintro (h | ⟨r, h1, h2, h3⟩)
      · exact ⟨i, Nat.le_refl _, by omega, h⟩
      · exact ⟨r, by omega, by omega, h3⟩
    · rintro ⟨r, h1, h2, h3⟩
      by_cases hr : r = i
      · subst hr; exact Or.inl h3
      · exact Or.inr ⟨r, by omega, by omega, h3⟩
/-- where the sets of a length begin -/
def ST (n : Nat) (st : Nat → Nat) (g : SG) : Prop := st 1 = 0 ∧ st (n + 1) = g.1 ∧ ∀ i, i ≤ n → st (i + 1) ≤ g.1 ∧ (1 ≤ i → st i ≤ st (i + 1)) ∧ ∀ j, j < g.1 → (j < st (i + 1) ↔ g.2.1 (g.2.2 j) ≤ i)
theorem jm_lt {W n : Nat} {G : Nat → Prop} {g : SG} {st : Nat → Nat} (hS : ST n st g) (h : LV W G n g) (hn : 1 ≤ n) : ∀ s ∈ jm g.2.2 st (n + 1) ((n + 1) / 2) 1, s < 2 ^ W := by
  intro s hs
  obtain ⟨r, r1, r2, hs⟩ := (mem_jm _ _).mp hs
  obtain ⟨p, p1, p2, q, q1, q2, q3⟩ := (mem_jo _ _).mp hs
  have b1 := (hS.2.2 r (by omega)).1
  have b2 := (hS.2.2 (n + 1 - r) (by omega)).1
  have c1 := h.1.2.2 p (by omega)
  have c2 := h.1.2.2 q (by omega)
  rcases q3 with q3 | q3
  · rw [← q3]; exact Nat.lt_of_le_of_lt Nat.and_le_left c1
  · rw [← q3]; exact Nat.or_lt_two_pow c1 c2
theorem jm_iff {W n : Nat} {G : Nat → Prop} {g : SG} {st : Nat → Nat} (hG : ∀ s, G s → s < 2 ^ W) (hS : ST n st g) (h : LV W G n g) (hn : 1 ≤ n) {s : Nat} (hs : s < 2 ^ W) (h0 : g.2.1 s = 0) : s ∈ jm g.2.2 st (n + 1) ((n + 1) / 2) 1 ↔ TN G n s := by
  obtain ⟨s1, s2, s3⟩ := hS
  constructor
  · intro hm
    obtain ⟨r, r1, r2, hm⟩ := (mem_jm _ _).mp hm
    obtain ⟨p, p1, p2, q, q1, q2, q3⟩ := (mem_jo _ _).mp hm
    have b1 := s3 r (by omega)
    have b2 := s3 (n + 1 - r) (by omega)
    have b3 := s3 (r - 1) (by omega)
    have b4 := s3 (n + 1 - r - 1) (by omega)
    rw [show r - 1 + 1 = r by omega] at b3
    rw [show n + 1 - r - 1 + 1 = n + 1 - r by omega] at b4
    have hp : p < g.1 := by omega
    have hq : q < g.1 := by omega
    have c1 := h.1.2.2 p hp
    have c2 := h.1.2.2 q hq
    have t1 := (b1.2.2 p hp).mp (by omega)
    have t3 := (b2.2.2 q hq).mp q2
    have t4 : ¬ g.2.1 (g.2.2 q) ≤ n + 1 - r - 1 := fun z => by
      have := (b4.2.2 q hq).mpr z
      by_cases e : r = n + 1 - r
      · rw [if_pos e] at q1
        rw [← e] at this
        omega
      · rw [if_neg e] at q1; omega
    have t5 : ¬ g.2.1 (g.2.2 p) ≤ r - 1 := fun z => by have := (b3.2.2 p hp).mpr z; omega
    refine Or.inr ⟨g.2.2 p, g.2.2 q, ?_, ?_, ?_, q3⟩
    · rw [← h.2.1 _ c1]; omega
    · rw [← h.2.1 _ c2]; omega
    · rw [← h.2.1 _ c1, ← h.2.1 _ c2]; omega
  · rintro (⟨z, -⟩ | ⟨x, y, x0, y0, hxy, hop⟩)
    · omega
    have key : ∀ x y, T G n x ≠ 0 → T G n y ≠ 0 → T G n x + T G n y = n + 1 → T G n x ≤ T G n y → (x &&& y = s ∨ x ||| y = s) → s ∈ jm g.2.2 st (n + 1) ((n + 1) / 2) 1 := by
      intro x y x0 y0 hxy hle hop
      have lx := T_lt hG n x x0
      have ly := T_lt hG n y y0
      have tx := h.2.1 x lx
      have ty := h.2.1 y ly
      obtain ⟨p, p1, p2⟩ := (h.1.2.1 x lx).mp (by rw [tx]; exact x0)
      obtain ⟨q, q1, q2⟩ := (h.1.2.1 y ly).mp (by rw [ty]; exact y0)
      have lex := T_le G n x
      have ley := T_le G n y
      rw [mem_jm]
      refine ⟨T G n x, by omega, by omega, ?_⟩
      rw [mem_jo]
      have b1 := s3 (T G n x) (by omega)
      have b2 := s3 (n + 1 - T G n x) (by omega)
      have b3 := s3 (T G n x - 1) (by omega)
      have b4 := s3 (n + 1 - T G n x - 1) (by omega)
      rw [show T G n x - 1 + 1 = T G n x by omega] at b3
      rw [show n + 1 - T G n x - 1 + 1 = n + 1 - T G n x by omega] at b4
      have w1 : p < st (T G n x + 1) := (b1.2.2 p p1).mpr (by rw [p2, tx]; exact Nat.le_refl _)
      have w2 : ¬ p < st (T G n x) := fun z => by have := (b3.2.2 p p1).mp z; rw [p2, tx] at this; omega
      have w3 : q < st (n + 1 - T G n x + 1) := (b2.2.2 q q1).mpr (by rw [q2, ty]; omega)
      have w4 : ¬ q < st (n + 1 - T G n x) := fun z => by have := (b4.2.2 q q1).mp z; rw [q2, ty] at this; omega
      by_cases e : T G n x = n + 1 - T G n x
      · rcases Nat.lt_trichotomy p q with z | z | z
        · exact ⟨p, by omega, by omega, q, by rw [if_pos e]; omega, w3, by rw [p2, q2]; exact hop⟩
        · exfalso
          have : x = y := by rw [← p2, ← q2, z]
          subst this
          have hsx : s = x := by
            rcases hop with o | o
            · rw [Nat.and_self] at o; exact o.symm
            · rw [Nat.or_self] at o; exact o.symm
          rw [hsx, tx] at h0
          exact x0 h0
        · rw [← e] at w3 w4
          refine ⟨q, by omega, by omega, p, by rw [if_pos e]; omega, by rw [← e]; exact w1, ?_⟩
          rw [p2, q2, Nat.and_comm, Nat.or_comm]
          exact hop
      · exact ⟨p, by omega, by omega, q, by rw [if_neg e]; omega, w3, by rw [p2, q2]; exact hop⟩
    rcases Nat.le_total (T G n x) (T G n y) with z | z
    · exact key x y x0 y0 hxy z hop
    · exact key y x y0 x0 (by omega) z (by rw [Nat.and_comm, Nat.or_comm]; exact hop)
theorem meas_in {W n : Nat} {G : Nat → Prop} {fs : Nat → Int32} {st : Nat → Nat} {g0 : SG} {K : Int32 → (Nat → Int32) → (Nat → Int32) → Option (Int32 × (Nat → Int32) × (Nat → Int32) × (Nat → Int32))} (h9 : W ≤ 9) (hn : 1 ≤ n) (hn2 : n ≤ 31) (hS : ST n st g0) (h : LV W G n g0) (hs1 : ∀ r, r < 34 → r ≤ n + 1 → 1 ≤ r → fs r = nI (st r)) : ∀ (m i f : Nat) (c : Int32) (fl fo : Nat → Int32) (g : SG), i + m = (n + 1) / 2 + 1 → 1 ≤ i → m < f → REP W c fl fo g → INV W g → EXT g0 g → ∃ c' fl' fo', P_X1_measure_83 (nI (n + 1)) fs K f (nI i) c fl fo = K c' fl' fo' ∧ REP W c' fl' fo' (nts (n + 1) g (jm g0.2.2 st (n + 1) m i)) := by
  intro m
  induction m with
  | zero =>
    intro i f c fl fo g hi hi1 hf hR hI hE
    obtain ⟨f, rfl⟩ : ∃ r, f = r + 1 := ⟨f - 1, by omega⟩
    rw [P_X1_measure_83, pk_sub (by omega), if_pos (nI_lt (by omega) (by omega))]
    exact ⟨c, fl, fo, rfl, hR⟩
  | succ m ih =>
    intro i f c fl fo g hi hi1 hf hR hI hE
    obtain ⟨f, rfl⟩ : ∃ r, f = r + 1 := ⟨f - 1, by omega⟩
    rw [P_X1_measure_83, pk_sub (by omega), if_neg (nI_nlt (by omega) (by omega))]
    have q1 := hS.2.2 i (by omega)
    have q2 := hS.2.2 (n + 1 - i) (by omega)
    obtain ⟨c1, fl1, fo1, a1, a2, a3, a4⟩ := join_c (i := i) (j := n + 1 - i) (N := n + 1) (fs := fs) (st := st) (g0 := g0) h9 (by omega) hi1 (by omega) (by omega) (by omega) hs1 q1.1 q2.1 (q1.2.1 hi1) (q2.2.1 (by omega)) c fl fo g hR hI hE
    rw [a1, Option.bind_some, nI_1, jm, nts_app]
    exact ih (i + 1) f c1 fl1 fo1 _ (by omega) (by omega) (by omega) a2 a3 a4
/-- no set comes behind level 27 -/
def CAP (W : Nat) (G : Nat → Prop) : Prop := ∀ m, 27 ≤ m → ∀ s, s < 2 ^ W → T G m s = T G 27 s
noncomputable def TF (G : Nat → Prop) (s : Nat) : Nat := T G 27 s
theorem ST_step {W n : Nat} {G : Nat → Prop} {g : SG} {st : Nat → Nat} {L : List Nat} (hn : 1 ≤ n) (hS : ST n st g) (h : LV W G n g) : ST (n + 1) (un st (n + 1 + 1) (nts (n + 1) g L).1) (nts (n + 1) g L) := by
  obtain ⟨s1, s2, s3⟩ := hS
  have hE := nts_ext (n + 1) L g
  have hle := hE.1
  refine ⟨by rw [un_n _ _ (by omega)]; exact s1, un_s _ _ _, fun i hi => ?_⟩
  by_cases hin : i = n + 1
  · subst hin
    rw [un_s, un_n _ _ (show n + 1 ≠ n + 1 + 1 by omega), s2]
    refine ⟨Nat.le_refl _, fun _ => hle, fun j hj => ⟨fun _ => ?_, fun _ => hj⟩⟩
    by_cases hj1 : j < g.1
    · have n1 : g.2.1 (g.2.2 j) ≠ 0 := (h.1.2.1 _ (h.1.2.2 j hj1)).mpr ⟨j, hj1, rfl⟩
      rw [hE.2.1 j hj1, hE.2.2 _ n1, h.2.1 _ (h.1.2.2 j hj1)]
      have := T_le G n (g.2.2 j)
      omega
    · rw [nts_new (N := n + 1) (by omega) L g j (by omega) hj]; exact Nat.le_refl _
  · have q := s3 i (by omega)
    rw [un_n _ _ (show i + 1 ≠ n + 1 + 1 by omega), un_n _ _ (show i ≠ n + 1 + 1 by omega)]
    refine ⟨Nat.le_trans q.1 hle, q.2.1, fun j hj => ?_⟩
    by_cases hj1 : j < g.1
    · have n1 : g.2.1 (g.2.2 j) ≠ 0 := (h.1.2.1 _ (h.1.2.2 j hj1)).mpr ⟨j, hj1, rfl⟩
      rw [hE.2.1 j hj1, hE.2.2 _ n1]
      exact q.2.2 j hj1
    · rw [nts_new (N := n + 1) (by omega) L g j (by omega) hj]
      exact ⟨fun z => by omega, fun z => by omega⟩
theorem meas_lv {W : Nat} {G : Nat → Prop} (h9 : W ≤ 9) (hG : ∀ s, G s → s < 2 ^ W) (hC : CAP W G) : ∀ (m n f : Nat) (c : Int32) (fl fo fs : Nat → Int32) (g : SG) (st : Nat → Nat), n + m = 32 → m < f → 1 ≤ n → REP W c fl fo g → LV W G n g → ST n st g → (∀ r, r < 34 → r ≤ n + 1 → 1 ≤ r → fs r = nI (st r)) → ∃ c' fl' fo' fs', P_X1_measure_66 (nI (2 ^ W - 1)) f (nI (n + 1)) c fl fo fs = some (c', fl', fo', fs') ∧ ∀ s, s < 2 ^ W → fl' s = nI (TF G s) := by
  have ⟨p1, p2⟩ := p9 h9
  intro m
  induction m with
  | zero =>
    intro n f c fl fo fs g st hn hf hn1 hR hL hS hs1
    obtain ⟨f, rfl⟩ : ∃ r, f = r + 1 := ⟨f - 1, by omega⟩
    rw [P_X1_measure_66, e32, if_pos (nI_lt (by omega) (by omega))]
    refine ⟨c, fl, fo, fs, rfl, fun s hs => ?_⟩
    rw [(hR.2.1 s hs).1, hL.2.1 s hs, hC n (by omega) s hs]
    rfl
  | succ m ih =>
    intro n f c fl fo fs g st hn hf hn1 hR hL hS hs1
    obtain ⟨f, rfl⟩ : ∃ r, f = r + 1 := ⟨f - 1, by omega⟩
    have hle := hL.1.le
    rw [P_X1_measure_66, e32, if_neg (nI_nlt (by omega) (by decide)), hR.1]
    by_cases hfull : 2 ^ W - 1 < g.1
    · rw [if_pos (nI_lt hfull (by omega))]
      refine ⟨_, fl, fo, fs, rfl, fun s hs => ?_⟩
      have hall := cnt_full (t := g.2.1) (2 ^ W) (by rw [← hL.1.1]; omega)
      have hT : ∀ x, x < 2 ^ W → T G n x ≠ 0 := fun x hx => by rw [← hL.2.1 x hx]; exact hall x hx
      rw [(hR.2.1 s hs).1, hL.2.1 s hs, TF]
      by_cases hn27 : n ≤ 27
      · rw [T_full hT hn27 hs]
      · rw [hC n (by omega) s hs]
    · rw [if_neg (nI_nlt (by omega) (by omega))]
      simp only [jn]
      obtain ⟨c1, fl1, fo1, a1, a2⟩ := meas_in (K := fun x108_o_found x108_f_length x108_f_order => (P_X4_put 34 (nI (n + 1) + 1) x108_o_found fs).bind fun z_119 => P_X1_measure_66 (nI (2 ^ W - 1)) f (nI (n + 1) + 1) x108_o_found x108_f_length x108_f_order z_119) h9 hn1 (by omega) hS hL hs1 ((n + 1) / 2) 1 QF (nI g.1) fl fo g (by omega) (by omega) (by unfold QF; omega) (by rw [← hR.1]; exact hR) hL.1 (EXT.refl g)
      have a1' : P_X1_measure_83 (nI (n + 1)) fs _ QF (1 : Int32) (nI g.1) fl fo = _ := a1
      rw [a1']
      have hL2 := LV_step (L := jm g.2.2 st (n + 1) ((n + 1) / 2) 1) hL (jm_lt hS hL hn1) (fun s hs h0 => jm_iff hG hS hL hn1 hs h0)
      have hS2 := ST_step (L := jm g.2.2 st (n + 1) ((n + 1) / 2) 1) hn1 hS hL
      rw [nI_1, put_in fs c1 (show n + 1 + 1 < 34 by omega) (by decide), Option.bind_some]
      refine ih (n + 1) f c1 fl1 fo1 _ _ _ (by omega) (by omega) (by omega) a2 hL2 hS2 (fun r r1 r2 r3 => ?_)
      by_cases hr : r = n + 1 + 1
      · subst hr
        rw [pk_us, un_s]
        exact a2.1
      · rw [pk_un hr, un_n _ _ hr]
        exact hs1 r r1 (by omega) r3
theorem meas_clear {W : Nat} {K : (Nat → Int32) → Option (Int32 × (Nat → Int32) × (Nat → Int32) × (Nat → Int32))} (h9 : W ≤ 9) : ∀ (m i f : Nat) (fl : Nat → Int32), i + m = 2 ^ W → m < f → (∀ s, s < i → fl s = 0) → ∃ fl', P_X1_measure_13 (nI (2 ^ W - 1)) K f (nI i) fl = K fl' ∧ ∀ s, s < 2 ^ W → fl' s = 0 := by
  have ⟨p1, p2⟩ := p9 h9
  intro m
  induction m with
  | zero =>
    intro i f fl hi hf h
    obtain ⟨f, rfl⟩ : ∃ r, f = r + 1 := ⟨f - 1, by omega⟩
    rw [P_X1_measure_13, if_pos (nI_lt (by omega) (by omega))]
    exact ⟨fl, rfl, fun s hs => h s (by omega)⟩
  | succ m ih =>
    intro i f fl hi hf h
    obtain ⟨f, rfl⟩ : ∃ r, f = r + 1 := ⟨f - 1, by omega⟩
    rw [P_X1_measure_13, if_neg (nI_nlt (by omega) (by omega)), put_in _ _ (show i < 512 by omega) (by decide), Option.bind_some, nI_1]
    refine ih (i + 1) f _ (by omega) (by omega) (fun s hs => ?_)
    by_cases q : s = i
    · subst q; rw [pk_us]
    · rw [pk_un q]; exact h s (by omega)
/-- a list out of numbered sets -/
def sgl (f : Nat → Nat) : Nat → Nat → List Nat
  | 0, _ => []
  | m + 1, i => f i :: sgl f m (i + 1)
theorem mem_sgl {f : Nat → Nat} {s : Nat} : ∀ (m i : Nat), s ∈ sgl f m i ↔ ∃ r, i ≤ r ∧ r < i + m ∧ f r = s := by
  intro m
  induction m with
  | zero => intro i; exact ⟨fun h => absurd h List.not_mem_nil, fun ⟨r, h1, h2, _⟩ => by omega⟩
  | succ m ih =>
    intro i
    rw [sgl, List.mem_cons, ih]
    constructor
    · rintro (h | ⟨r, h1, h2, h3⟩)
      · exact ⟨i, Nat.le_refl _, by omega, h.symm⟩
      · exact ⟨r, by omega, by omega, h3⟩
    · rintro ⟨r, h1, h2, h3⟩
      by_cases hr : r = i
      · subst hr; exact Or.inl h3.symm
      · exact Or.inr ⟨r, by omega, by omega, h3⟩
theorem signs_in {W M c : Nat} {p1 w : Int32} {fv fl fw : Nat → Int32} {f : Nat → Nat} {K : Int32 → (Nat → Int32) → (Nat → Int32) → Option (Int32 × (Nat → Int32) × (Nat → Int32))} (h9 : W ≤ 9) (hM : M < 100) (hm : P_X5_many (nI c) p1 fv w = some (nI M)) (hl : ∀ i, i < M → P_X5_leftBy (nI c) (nI i) fl fw = some (nI (f i)) ∧ f i < 2 ^ W) : ∀ (m i n : Nat) (cc : Int32) (ll lo : Nat → Int32) (g : SG), i + m = M → m < n → REP W cc ll lo g → INV W g → ∃ c' l' o', P_X1_noteSigns_9 p1 fv fl w fw (nI c) K n (nI i) cc ll lo = K c' l' o' ∧ REP W c' l' o' (nts 1 g (sgl f m i)) ∧ INV W (nts 1 g (sgl f m i)) := by
  intro m
  induction m with
  | zero =>
    intro i n cc ll lo g hi hn hR hI
    obtain ⟨n, rfl⟩ : ∃ r, n = r + 1 := ⟨n - 1, by omega⟩
    rw [P_X1_noteSigns_9, hm, Option.bind_some, if_pos (nI_le (by omega) (by omega))]
    exact ⟨cc, ll, lo, rfl, hR, hI⟩
  | succ m ih =>
    intro i n cc ll lo g hi hn hR hI
    obtain ⟨n, rfl⟩ : ∃ r, n = r + 1 := ⟨n - 1, by omega⟩
    obtain ⟨l1, l2⟩ := hl i (by omega)
    obtain ⟨c1, ll1, lo1, a1, a2⟩ := note_c (N := 1) h9 hR hI (by decide) l2
    have I1 := nt_inv (N := 1) (by decide) hI l2
    rw [P_X1_noteSigns_9, hm, Option.bind_some, if_neg (nI_ge (by omega) (by omega)), l1, Option.bind_some, e1, a1, Option.bind_some, nI_add]
    exact ih (i + 1) n c1 ll1 lo1 _ (by omega) (by omega) a2 I1
