/-! the signs, on both sides; the class's measure -/
def GS (k : Nat) (vs : Nat → Nat) (W nw : Nat) (wl : Nat → Nat) (mo : Option Nat) (s : Nat) : Prop := (∃ c v, c < k ∧ v < vs c ∧ mk vs W c v = s) ∨ (∃ i, i < nw ∧ wl i = s) ∨ mo = some s
/-- the words, as a row holds them -/
def WD (W nw : Nat) (wl : Nat → Nat) (fw : Nat → Int32) : Prop := nw ≤ 3 ∧ ∀ i, i < nw → fw i = nI (wl i) ∧ wl i < 2 ^ W
def MO (W : Nat) (mo : Option Nat) : Prop := ∀ s, mo = some s → s < 2 ^ W
theorem GS_lt {k W nw : Nat} {vs : Nat → Nat} {wl : Nat → Nat} {fw : Nat → Int32} {mo : Option Nat} (hw : WD W nw wl fw) (hm : MO W mo) : ∀ s, GS k vs W nw wl mo s → s < 2 ^ W := by
  rintro s (⟨c, v, -, -, h⟩ | ⟨i, hi, h⟩ | h)
  · rw [← h]; exact mk_lt _ _ _ _
  · rw [← h]; exact (hw.2 i hi).2
  · exact hm s h
def mol (mo : Option Nat) : List Nat := match mo with
  | some s => [s]
  | none => []
theorem mem_mol {mo : Option Nat} {s : Nat} : s ∈ mol mo ↔ mo = some s := by
  cases mo with
  | none => exact ⟨fun h => absurd h List.not_mem_nil, fun h => by cases h⟩
  | some x => rw [mol, List.mem_singleton]; exact ⟨fun h => by rw [h], fun h => by cases h; rfl⟩
def ggl (M : Nat → Nat) (F : Nat → Nat → Nat) : Nat → Nat → List Nat
  | 0, _ => []
  | m + 1, c => sgl (F c) (M c) 0 ++ ggl M F m (c + 1)
theorem mem_ggl {M : Nat → Nat} {F : Nat → Nat → Nat} {s : Nat} : ∀ (m c : Nat), s ∈ ggl M F m c ↔ ∃ r, c ≤ r ∧ r < c + m ∧ ∃ i, i < M r ∧ F r i = s := by
  intro m
  induction m with
  | zero => intro c; exact ⟨fun h => absurd h List.not_mem_nil, fun ⟨r, h1, h2, _⟩ => by omega⟩
  | succ m ih =>
    intro c
    rw [ggl, List.mem_append, mem_sgl, ih]
    constructor
    · rintro (⟨i, h1, h2, h3⟩ | ⟨r, h1, h2, h3⟩)
      · exact ⟨c, Nat.le_refl _, by omega, i, by omega, h3⟩
      · exact ⟨r, by omega, by omega, h3⟩
    · rintro ⟨r, h1, h2, i, h3, h4⟩
      by_cases hr : r = c
      · subst hr; exact Or.inl ⟨i, Nat.zero_le _, by omega, h4⟩
      · exact Or.inr ⟨r, by omega, by omega, i, h3, h4⟩
/-- how many signs a group has, and which -/
def gM (k : Nat) (vs : Nat → Nat) (nw c : Nat) : Nat := if c = 3 then nw else if c < k then vs c else 0
def gF (vs : Nat → Nat) (W : Nat) (wl : Nat → Nat) (c i : Nat) : Nat := if c = 3 then wl i else mk vs W c i
theorem gM_lt {k W nw c : Nat} {vs : Nat → Nat} (h : TG k vs W) (hn : nw ≤ 3) : gM k vs nw c ≤ 9 := by
  rw [gM]
  split
  · omega
  · split
    · exact (h.pos c).2
    · omega
theorem many_eq {k W nw c : Nat} {vs : Nat → Nat} {fv fl : Nat → Int32} (h : CT k vs W fv fl) (hc : c ≤ 3) (hn : nw ≤ 3) : P_X5_many (nI c) (nI k) fv (nI nw) = some (nI (gM k vs nw c)) := by
  have h3 := h.1.k3
  unfold P_X5_many
  by_cases h0 : c = 3
  · subst h0
    rw [if_pos (show nI 3 = 3 from rfl), P_X0_words, Option.bind_some, gM, if_pos rfl]
  · rw [if_neg (show ¬ nI c = 3 from fun z => h0 ((nI_eq (b := 3) (by omega) (by decide)).mp z)), gM, if_neg h0]
    by_cases h1 : c < k
    · rw [valuesOf_in h h1, Option.bind_some, if_pos h1]
    · rw [valuesOf_out (Or.inr (nI_le (by omega) (by omega))), Option.bind_some, if_neg h1]; rfl
theorem sLeft_eq {k W nw c i : Nat} {vs : Nat → Nat} {wl : Nat → Nat} {fv fl fw : Nat → Int32} (h : CT k vs W fv fl) (hw : WD W nw wl fw) (hc : c ≤ 3) (hi : i < gM k vs nw c) : P_X5_leftBy (nI c) (nI i) fl fw = some (nI (gF vs W wl c i)) ∧ gF vs W wl c i < 2 ^ W := by
  have h3 := h.1.k3
  have hn := hw.1
  unfold P_X5_leftBy
  by_cases h0 : c = 3
  · subst h0
    rw [gM, if_pos rfl] at hi
    have q := hw.2 i hi
    rw [if_pos (show nI 3 = 3 from rfl), P_X0_wordSet, at_in fw (show i < 3 by omega) (by decide), Option.bind_some, Option.bind_some, gF, if_pos rfl, q.1]
    exact ⟨rfl, q.2⟩
  · rw [gM, if_neg h0] at hi
    by_cases h1 : c < k
    · rw [if_pos h1] at hi
      rw [if_neg (show ¬ nI c = 3 from fun z => h0 ((nI_eq (b := 3) (by omega) (by decide)).mp z)), leftBy_in h h1 hi, Option.bind_some, gF, if_neg h0]
      exact ⟨rfl, mk_lt _ _ _ _⟩
    · rw [if_neg h1] at hi; omega
theorem signs_out {k W nw : Nat} {vs wl : Nat → Nat} {fv fl fw : Nat → Int32} {K : Int32 → (Nat → Int32) → (Nat → Int32) → Option (Int32 × (Nat → Int32) × (Nat → Int32))} (h : CT k vs W fv fl) (hw : WD W nw wl fw) : ∀ (m c n : Nat) (cc : Int32) (ll lo : Nat → Int32) (g : SG), c + m = 4 → m < n → REP W cc ll lo g → INV W g → ∃ c' l' o', P_X1_noteSigns_2 (nI k) fv fl (nI nw) fw K n (nI c) cc ll lo = K c' l' o' ∧ REP W c' l' o' (nts 1 g (ggl (gM k vs nw) (gF vs W wl) m c)) ∧ INV W (nts 1 g (ggl (gM k vs nw) (gF vs W wl) m c)) := by
  intro m
  induction m with
  | zero =>
    intro c n cc ll lo g hi hn hR hI
    obtain ⟨n, rfl⟩ : ∃ r, n = r + 1 := ⟨n - 1, by omega⟩
    rw [P_X1_noteSigns_2, e3, if_pos (nI_lt (by omega) (by omega))]
    exact ⟨cc, ll, lo, rfl, hR, hI⟩
  | succ m ih =>
    intro c n cc ll lo g hi hn hR hI
    obtain ⟨n, rfl⟩ : ∃ r, n = r + 1 := ⟨n - 1, by omega⟩
    have hM := gM_lt (c := c) h.1 hw.1
    rw [P_X1_noteSigns_2, e3, if_neg (nI_nlt (by omega) (by decide))]
    simp only [jn]
    obtain ⟨c1, l1, o1, a1, a2, a3⟩ := signs_in (K := fun x41_o_found x41_f_length x41_f_order => P_X1_noteSigns_2 (nI k) fv fl (nI nw) fw K n (nI c + 1) x41_o_found x41_f_length x41_f_order) h.1.le (show gM k vs nw c < 100 by omega) (many_eq h (by omega) hw.1) (fun i hi => sLeft_eq h hw (by omega) hi) (gM k vs nw c) 0 QF cc ll lo g (by omega) (by unfold QF; omega) hR hI
    have a1' : P_X1_noteSigns_9 (nI k) fv fl (nI nw) fw (nI c) _ QF (0 : Int32) cc ll lo = _ := a1
    rw [a1', nI_1, ggl, nts_app]
    exact ih (c + 1) n c1 l1 o1 _ (by omega) (by omega) a2 a3
theorem noteSigns_eq {k W nw : Nat} {vs wl : Nat → Nat} {fv fl fw : Nat → Int32} {mo : Option Nat} (h : CT k vs W fv fl) (hw : WD W nw wl fw) (hm : MO W mo) {cc : Int32} {ll lo : Nat → Int32} {g : SG} (hR : REP W cc ll lo g) (hI : INV W g) : ∃ c' l' o', P_X1_noteSigns (toI mo) cc (nI k) fv fl (nI nw) fw ll lo = some (c', l', o') ∧ REP W c' l' o' (nts 1 g (ggl (gM k vs nw) (gF vs W wl) 4 0 ++ mol mo)) := by
  have ⟨p1, p2⟩ := p9 h.1.le
  have q : 4 < QF := by unfold QF; omega
  unfold P_X1_noteSigns
  rw [jn]
  obtain ⟨c1, l1, o1, a1, a2, a3⟩ := signs_out (K := fun x47_o_found x47_f_length x47_f_order => if toI mo = (-1) then some (x47_o_found, x47_f_length, x47_f_order) else (P_X1_note (toI mo) 1 x47_o_found x47_f_length x47_f_order).bind fun z_55 => some (z_55.1, z_55.2.1, z_55.2.2)) h hw 4 0 QF cc ll lo g (by omega) q hR hI
  have a1' : P_X1_noteSigns_2 (nI k) fv fl (nI nw) fw _ QF (0 : Int32) cc ll lo = _ := a1
  rw [a1', nts_app]
  cases mo with
  | none => exact ⟨c1, l1, o1, if_pos rfl, a2⟩
  | some s =>
    have hs := hm s rfl
    obtain ⟨c2, l2, o2, b1, b2⟩ := note_c (N := 1) h.1.le a2 a3 (by decide) hs
    have b1' : P_X1_note (toI (some s)) 1 c1 l1 o1 = _ := b1
    have hne : ¬ toI (some s) = -1 := by
      intro e
      have : (nI s).toInt = (-1 : Int32).toInt := by rw [show nI s = -1 from e]
      rw [nI_toInt (by omega)] at this
      have e2 : (-1 : Int32).toInt = -1 := by decide
      omega
    refine ⟨c2, l2, o2, ?_, b2⟩
    rw [if_neg hne, b1', Option.bind_some]
theorem signs_mem {k W nw : Nat} {vs wl : Nat → Nat} {mo : Option Nat} (h : TG k vs W) {s : Nat} : s ∈ ggl (gM k vs nw) (gF vs W wl) 4 0 ++ mol mo ↔ GS k vs W nw wl mo s := by
  have h3 := h.k3
  rw [List.mem_append, mem_ggl, mem_mol, GS]
  constructor
  · rintro (⟨r, h1, h2, i, h4, h5⟩ | q)
    · rw [gM] at h4
      rw [gF] at h5
      by_cases hr : r = 3
      · rw [if_pos hr] at h4 h5; exact Or.inr (Or.inl ⟨i, h4, h5⟩)
      · rw [if_neg hr] at h4 h5
        by_cases hk : r < k
        · rw [if_pos hk] at h4; exact Or.inl ⟨r, i, hk, h4, h5⟩
        · rw [if_neg hk] at h4; omega
    · exact Or.inr (Or.inr q)
  · rintro (⟨c, v, h1, h2, h4⟩ | ⟨i, h1, h2⟩ | q)
    · exact Or.inl ⟨c, Nat.zero_le _, by omega, v, by rw [gM, if_neg (by omega), if_pos h1]; exact h2, by rw [gF, if_neg (by omega)]; exact h4⟩
    · exact Or.inl ⟨3, by omega, by omega, i, by rw [gM, if_pos rfl]; exact h1, by rw [gF, if_pos rfl]; exact h2⟩
    · exact Or.inr q
def g0 : SG := (0, fun _ => 0, fun _ => 0)
theorem cnt_0 : ∀ n, cnt (fun _ => 0) n = 0 := by
  intro n
  induction n with
  | zero => rfl
  | succ n ih => rw [cnt, ih, if_pos rfl]
theorem LV_0 (W : Nat) (G : Nat → Prop) : LV W G 0 g0 := ⟨⟨(cnt_0 _).symm, fun s _ => ⟨fun h => absurd rfl h, fun ⟨j, hj, _⟩ => absurd hj (Nat.not_lt_zero j)⟩, fun j hj => absurd hj (Nat.not_lt_zero j)⟩, fun _ _ => rfl, fun i j _ hj => absurd hj (Nat.not_lt_zero j)⟩
theorem LV_1 {W : Nat} {G : Nat → Prop} {L : List Nat} (hG : ∀ s, G s → s < 2 ^ W) (hL : ∀ s, s ∈ L ↔ G s) : LV W G 1 (nts 1 g0 L) := by
  refine LV_step (n := 0) (LV_0 W G) (fun s hs => hG s ((hL s).mp hs)) (fun s hs _ => ?_)
  rw [hL]
  exact ⟨fun h => Or.inl ⟨rfl, h⟩, fun h => h.elim (fun z => z.2) (fun ⟨x, _, h1, _⟩ => absurd rfl h1)⟩
theorem ST_1 {W : Nat} {G : Nat → Prop} {g : SG} (h : LV W G 1 g) (st : Nat → Nat) (s1 : st 1 = 0) (s2 : st 2 = g.1) : ST 1 st g := by
  refine ⟨s1, s2, fun i hi => ?_⟩
  have ht : ∀ j, j < g.1 → g.2.1 (g.2.2 j) = 1 := fun j hj => by
    have n1 : g.2.1 (g.2.2 j) ≠ 0 := (h.1.2.1 _ (h.1.2.2 j hj)).mpr ⟨j, hj, rfl⟩
    have n2 := T_le G 1 (g.2.2 j)
    rw [← h.2.1 _ (h.1.2.2 j hj)] at n2
    omega
  rcases (show i = 0 ∨ i = 1 by omega) with rfl | rfl
  · rw [s1]
    exact ⟨Nat.zero_le _, fun z => by omega, fun j hj => ⟨fun z => by omega, fun z => by rw [ht j hj] at z; omega⟩⟩
  · rw [s2]
    exact ⟨Nat.le_refl _, fun _ => by rw [s1]; exact Nat.zero_le _, fun j hj => ⟨fun _ => by rw [ht j hj]; exact Nat.le_refl _, fun _ => hj⟩⟩
theorem measure_c {k W nw : Nat} {vs wl : Nat → Nat} {fv fl fw : Nat → Int32} {mo : Option Nat} (h : CT k vs W fv fl) (hw : WD W nw wl fw) (hm : MO W mo) (hC : CAP W (GS k vs W nw wl mo)) (cc : Int32) (ll lo ls : Nat → Int32) : ∃ c' l' o' s', P_X1_measure (toI mo) cc (nI k) (nI W) fv fl (nI nw) fw ll lo ls = some (c', l', o', s') ∧ ∀ s, s < 2 ^ W → l' s = nI (TF (GS k vs W nw wl mo) s) := by
  have ⟨p1, p2⟩ := p9 h.1.le
  unfold P_X1_measure
  rw [all_eq h.1.le, Option.bind_some]
  simp only [jn]
  obtain ⟨l1, a1, a2⟩ := meas_clear (W := W) (K := fun x33_f_length => (P_X1_noteSigns (toI mo) 0 (nI k) fv fl (nI nw) fw x33_f_length lo).bind fun z_40 => (P_X4_put 34 1 0 ls).bind fun z_49 => (P_X4_put 34 2 z_40.1 z_49).bind fun z_61 => P_X1_measure_66 (nI (2 ^ W - 1)) QF 2 z_40.1 z_40.2.1 z_40.2.2 z_61) h.1.le (2 ^ W) 0 QF ll (by omega) (by unfold QF; omega) (fun s hs => by omega)
  have a1' : P_X1_measure_13 (nI (2 ^ W - 1)) _ QF (0 : Int32) ll = _ := a1
  rw [a1']
  have hR0 : REP W 0 l1 lo g0 := ⟨rfl, fun s hs => ⟨a2 s hs, by show (0 : Nat) < 100; decide⟩, fun j hj => absurd hj (Nat.not_lt_zero j)⟩
  obtain ⟨c2, l2, o2, b1, b2⟩ := noteSigns_eq h hw hm hR0 (LV_0 W (fun _ => False)).1
  have hL := LV_1 (W := W) (G := GS k vs W nw wl mo) (L := ggl (gM k vs nw) (gF vs W wl) 4 0 ++ mol mo) (GS_lt hw hm) (fun s => signs_mem h.1)
  rw [b1, Option.bind_some]
  have q1 : P_X4_put 34 1 0 ls = some (upd ls 1 0) := put_in (n := 34) (j := 1) ls 0 (by decide) (by decide)
  rw [q1, Option.bind_some]
  have q2 : P_X4_put 34 2 c2 (upd ls 1 0) = some (upd (upd ls 1 0) 2 c2) := put_in (n := 34) (j := 2) (upd ls 1 0) c2 (by decide) (by decide)
  rw [q2, Option.bind_some]
  generalize hg : nts 1 g0 (ggl (gM k vs nw) (gF vs W wl) 4 0 ++ mol mo) = g at b2 hL
  obtain ⟨c3, l3, o3, s3, d1, d2⟩ := meas_lv h.1.le (GS_lt hw hm) hC 31 1 QF c2 l2 o2 (upd (upd ls 1 0) 2 c2) g (un (un (fun _ => 0) 1 0) 2 g.1) (by omega) (by unfold QF; omega) (by omega) b2 hL (ST_1 hL _ rfl rfl) (fun r r1 r2 r3 => by
    rcases (show r = 1 ∨ r = 2 by omega) with rfl | rfl
    · rfl
    · rw [pk_us, un_s]; exact b2.1)
  exact ⟨c3, l3, o3, s3, d1, d2⟩
