/-! the text and its runs -/
def TX (n : Nat) (b : Nat → Nat) (fB fm : Nat → Int32) : Prop := n ≤ 200 ∧ ∀ i, i < n → b i < 256 ∧ fB i = nI (b i) ∧ fm i &&& 255 = nI (b i)
def rn (P : Nat → Bool) : Nat → Nat → Nat
  | 0, i => i
  | m + 1, i => if P i then rn P m (i + 1) else i
theorem rn_all (P : Nat → Bool) : ∀ m i, i ≤ rn P m i ∧ rn P m i ≤ i + m ∧ (∀ j, i ≤ j → j < rn P m i → P j = true) ∧ (rn P m i < i + m → P (rn P m i) = false) := by
  intro m
  induction m with
  | zero => intro i; exact ⟨Nat.le_refl _, Nat.le_refl _, fun j h1 h2 => absurd h2 (by rw [rn]; omega), fun h => absurd h (by rw [rn]; omega)⟩
  | succ m ih =>
    intro i
    rw [rn]
    cases h : P i with
    | true =>
      rw [if_pos rfl]
      obtain ⟨h1, h2, h3, h4⟩ := ih (i + 1)
      refine ⟨by omega, by omega, fun j g1 g2 => ?_, fun g => h4 (by omega)⟩
      by_cases e : j = i
      · rw [e]; exact h
      · exact h3 j (by omega) g2
    | false =>
      rw [if_neg (by decide)]
      exact ⟨Nat.le_refl _, by omega, fun j g1 g2 => by omega, fun _ => h⟩
theorem byteAt_in {n i : Nat} {b : Nat → Nat} {fB fm : Nat → Int32} (h : TX n b fB fm) (hi : i < n) : P_X6_byteAt (nI i) (nI n) fB = some (nI (b i)) := by
  have h1 := h.1
  unfold P_X6_byteAt
  rw [if_neg (nI_ge hi (by omega)), at_in _ (by omega) (by decide), Option.bind_some, (h.2 i hi).2.1]
theorem byteAt_out {n i : Nat} {fB : Nat → Int32} (h : n ≤ i) (hi : i < 2 ^ 31) : P_X6_byteAt (nI i) (nI n) fB = some 0 := by
  unfold P_X6_byteAt
  rw [if_pos (nI_le h hi)]
theorem here_in {n i : Nat} {b : Nat → Nat} {fB fm : Nat → Int32} (h : TX n b fB fm) (hi : i < n) : P_X11_here (nI n) (nI i) fm = some (nI (b i)) := by
  have h1 := h.1
  unfold P_X11_here
  rw [if_neg (nI_ge hi (by omega)), ck_in _ (by omega) (by decide), nI_clamp (by omega), (h.2 i hi).2.2]
theorem here_out {n i : Nat} {fm : Nat → Int32} (h : n ≤ i) (hi : i < 2 ^ 31) : P_X11_here (nI n) (nI i) fm = some (-1) := by
  unfold P_X11_here
  rw [if_pos (nI_le h hi)]
def isL (b : Nat → Nat) (i : Nat) : Bool := decide (97 ≤ b i) && decide (b i ≤ 122)
def isD (b : Nat → Nat) (i : Nat) : Bool := decide (48 ≤ b i) && decide (b i ≤ 57)
def isB (b : Nat → Nat) (i : Nat) : Bool := b i == 32
theorem isL_iff {b : Nat → Nat} {i : Nat} : isL b i = true ↔ 97 ≤ b i ∧ b i ≤ 122 := by rw [isL, Bool.and_eq_true, decide_eq_true_eq, decide_eq_true_eq]
theorem isD_iff {b : Nat → Nat} {i : Nat} : isD b i = true ↔ 48 ≤ b i ∧ b i ≤ 57 := by rw [isD, Bool.and_eq_true, decide_eq_true_eq, decide_eq_true_eq]
theorem cl_eq {y : Nat} (hy : y < 2 ^ 31) (lo hi : Nat) (hl : lo < 2 ^ 31) (hh : hi < 2 ^ 31) : (if nI y < nI lo then (some 0 : Option Int32) else if nI hi < nI y then some 0 else some 1) = some (bI (decide (lo ≤ y) && decide (y ≤ hi))) := by
  by_cases q : y < lo
  · rw [if_pos (nI_lt q hl), decide_eq_false (by omega)]; rfl
  · rw [if_neg (nI_nlt (by omega) hy), decide_eq_true (by omega)]
    by_cases r : hi < y
    · rw [if_pos (nI_lt r hy), decide_eq_false (by omega)]; rfl
    · rw [if_neg (nI_nlt (by omega) hh), decide_eq_true (by omega)]; rfl
theorem isLetter_eq {b : Nat → Nat} {i : Nat} (h : b i < 256) : P_X7_isLetter (nI (b i)) = some (bI (isL b i)) := cl_eq (by omega) 97 122 (by decide) (by decide)
theorem isDigit_eq {b : Nat → Nat} {i : Nat} (h : b i < 256) : P_X7_isDigit (nI (b i)) = some (bI (isD b i)) := cl_eq (by omega) 48 57 (by decide) (by decide)
theorem inb_eq {y lo hi : Nat} (hy : y < 2 ^ 31) (hh : hi < 2 ^ 31) (hl : lo < 2 ^ 31) : P_X11_in (nI y) (nI lo) (nI hi) = some (bI (decide (lo ≤ y) && decide (y ≤ hi))) := by
  by_cases q : lo ≤ y ∧ y ≤ hi
  · rw [in_in q.1 q.2 hh, decide_eq_true q.1, decide_eq_true q.2]; rfl
  · have : (nI y < nI lo ∨ nI hi < nI y) := by
      rcases Nat.lt_or_ge y lo with r | r
      · exact Or.inl (nI_lt r hl)
      · exact Or.inr (nI_lt (by omega) hy)
    rw [in_out this]
    cases a : decide (lo ≤ y) with
    | false => rfl
    | true => rw [decide_eq_false (by rw [decide_eq_true_eq] at a; omega)]; rfl
theorem inL_eq {b : Nat → Nat} {i : Nat} (h : b i < 256) : P_X11_in (nI (b i)) 97 122 = some (bI (isL b i)) := inb_eq (lo := 97) (hi := 122) (by omega) (by decide) (by decide)
theorem inD_eq {b : Nat → Nat} {i : Nat} (h : b i < 256) : P_X11_in (nI (b i)) 48 57 = some (bI (isD b i)) := inb_eq (lo := 48) (hi := 57) (by omega) (by decide) (by decide)
theorem in_m1 {lo hi : Int32} (h : -1 < lo) : P_X11_in (-1) lo hi = some 0 := in_out (Or.inl h)
/-! the loops -/
theorem blanks_c {n : Nat} {b : Nat → Nat} {fB fm : Nat → Int32} {K : Int32 → Option (Int32 × Int32 × Int32)} (h : TX n b fB fm) : ∀ (m i f : Nat), i + m = n → m < f → P_X7_step_0 (nI n) fB K f (nI i) = K (nI (rn (isB b) m i)) := by
  have h1 := h.1
  intro m
  induction m with
  | zero =>
    intro i f hi hf
    obtain ⟨f, rfl⟩ : ∃ q, f = q + 1 := ⟨f - 1, by omega⟩
    rw [P_X7_step_0]
    unfold P_X6_size
    rw [Option.bind_some, if_pos (nI_le (by omega) (by omega))]
    rfl
  | succ m ih =>
    intro i f hi hf
    obtain ⟨f, rfl⟩ : ∃ q, f = q + 1 := ⟨f - 1, by omega⟩
    have hb := (h.2 i (by omega)).1
    rw [P_X7_step_0]
    unfold P_X6_size
    rw [Option.bind_some, if_neg (nI_ge (by omega) (by omega)), byteAt_in h (by omega), Option.bind_some, rn, isB, nI_1]
    by_cases q : b i = 32
    · rw [if_pos (show nI (b i) = 32 by rw [q]; rfl), if_pos (by rw [q]; rfl)]
      exact ih (i + 1) f (by omega) (by omega)
    · rw [if_neg (show ¬ nI (b i) = 32 from fun z => q ((nI_eq (b := 32) (by omega) (by decide)).mp z)), if_neg (by rw [beq_iff_eq]; exact q)]
theorem blanks_m {n : Nat} {b : Nat → Nat} {fB fm : Nat → Int32} {K : Int32 → Option (Int32 × Int32 × Int32 × Int32)} (h : TX n b fB fm) : ∀ (m i f : Nat), i + m = n → m < f → P_X11_next_0 (nI n) fm K f (nI i) = K (nI (rn (isB b) m i)) := by
  have h1 := h.1
  intro m
  induction m with
  | zero =>
    intro i f hi hf
    obtain ⟨f, rfl⟩ : ∃ q, f = q + 1 := ⟨f - 1, by omega⟩
    rw [P_X11_next_0, here_out (by omega) (by omega), Option.bind_some, if_neg (by decide)]
    rfl
  | succ m ih =>
    intro i f hi hf
    obtain ⟨f, rfl⟩ : ∃ q, f = q + 1 := ⟨f - 1, by omega⟩
    have hb := (h.2 i (by omega)).1
    rw [P_X11_next_0, here_in h (by omega), Option.bind_some, rn, isB, nI_1]
    by_cases q : b i = 32
    · rw [if_pos (show nI (b i) = 32 by rw [q]; rfl), if_pos (by rw [q]; rfl)]
      exact ih (i + 1) f (by omega) (by omega)
    · rw [if_neg (show ¬ nI (b i) = 32 from fun z => q ((nI_eq (b := 32) (by omega) (by decide)).mp z)), if_neg (by rw [beq_iff_eq]; exact q)]
theorem letters_c {n : Nat} {b : Nat → Nat} {fB fm : Nat → Int32} (h : TX n b fB fm) : ∀ (m i f : Nat), i + m = n → m < f → P_X7_passLetters_0 (nI n) fB f (nI i) = some (nI (rn (isL b) m i)) := by
  have h1 := h.1
  intro m
  induction m with
  | zero =>
    intro i f hi hf
    obtain ⟨f, rfl⟩ : ∃ q, f = q + 1 := ⟨f - 1, by omega⟩
    rw [P_X7_passLetters_0]
    unfold P_X6_size
    rw [Option.bind_some, if_pos (nI_le (by omega) (by omega))]
    rfl
  | succ m ih =>
    intro i f hi hf
    obtain ⟨f, rfl⟩ : ∃ q, f = q + 1 := ⟨f - 1, by omega⟩
    have hb := (h.2 i (by omega)).1
    rw [P_X7_passLetters_0]
    unfold P_X6_size
    rw [Option.bind_some, if_neg (nI_ge (by omega) (by omega)), byteAt_in h (by omega), Option.bind_some, isLetter_eq hb, Option.bind_some, rn, nI_1]
    cases q : isL b i with
    | true =>
      rw [if_neg (show ¬ bI true = 0 by decide), if_pos rfl]
      exact ih (i + 1) f (by omega) (by omega)
    | false => rw [if_pos (show bI false = 0 from rfl), if_neg (by decide)]
theorem digits_c {n : Nat} {b : Nat → Nat} {fB fm : Nat → Int32} (h : TX n b fB fm) : ∀ (m i f : Nat), i + m = n → m < f → P_X7_passDigits_0 (nI n) fB f (nI i) = some (nI (rn (isD b) m i)) := by
  have h1 := h.1
  intro m
  induction m with
  | zero =>
    intro i f hi hf
    obtain ⟨f, rfl⟩ : ∃ q, f = q + 1 := ⟨f - 1, by omega⟩
    rw [P_X7_passDigits_0]
    unfold P_X6_size
    rw [Option.bind_some, if_pos (nI_le (by omega) (by omega))]
    rfl
  | succ m ih =>
    intro i f hi hf
    obtain ⟨f, rfl⟩ : ∃ q, f = q + 1 := ⟨f - 1, by omega⟩
    have hb := (h.2 i (by omega)).1
    rw [P_X7_passDigits_0]
    unfold P_X6_size
    rw [Option.bind_some, if_neg (nI_ge (by omega) (by omega)), byteAt_in h (by omega), Option.bind_some, isDigit_eq hb, Option.bind_some, rn, nI_1]
    cases q : isD b i with
    | true =>
      rw [if_neg (show ¬ bI true = 0 by decide), if_pos rfl]
      exact ih (i + 1) f (by omega) (by omega)
    | false => rw [if_pos (show bI false = 0 from rfl), if_neg (by decide)]
/-- the code of r letters from p on -/
def cd (b : Nat → Nat) (p : Nat) : Nat → Nat
  | 0 => 0
  | r + 1 => 27 * cd b p r + (b (p + r) - 96)
def cdx (b : Nat → Nat) (p r : Nat) : Nat := if r ≤ 6 then cd b p r else 0
theorem cd_bnd {b : Nat → Nat} {p : Nat} : ∀ r, (∀ j, p ≤ j → j < p + r → isL b j = true) → cd b p r < 27 ^ r ∧ (1 ≤ r → 27 ^ (r - 1) ≤ cd b p r) := by
  intro r
  induction r with
  | zero => intro _; exact ⟨(show 0 < 1 by decide), fun h => absurd h (by decide)⟩
  | succ r ih =>
    intro h
    obtain ⟨h1, h2⟩ := ih (fun j g1 g2 => h j g1 (by omega))
    have h3 := isL_iff.mp (h (p + r) (by omega) (by omega))
    rw [cd, Nat.add_sub_cancel, Nat.pow_succ]
    refine ⟨by omega, fun _ => ?_⟩
    cases r with
    | zero => rw [cd]; show 1 ≤ _; omega
    | succ r =>
      have := h2 (by omega)
      rw [Nat.add_sub_cancel] at this
      rw [Nat.pow_succ]
      omega
theorem letters_m {n p : Nat} {b : Nat → Nat} {fB fm : Nat → Int32} {K : Int32 → Int32 → Option (Int32 × Int32 × Int32 × Int32)} (h : TX n b fB fm) : ∀ (m r f : Nat), p + r + m = n → m < f → (∀ j, p ≤ j → j < p + r → isL b j = true) → P_X11_next_66 (nI n) fm (nI p) K f (nI (cdx b p r)) (nI (p + r)) = K (nI (cdx b p (rn (isL b) m (p + r) - p))) (nI (rn (isL b) m (p + r))) := by
  have h1 := h.1
  intro m
  induction m with
  | zero =>
    intro r f hi hf hL
    obtain ⟨f, rfl⟩ : ∃ q, f = q + 1 := ⟨f - 1, by omega⟩
    rw [P_X11_next_66, here_out (by omega) (by omega), Option.bind_some, in_m1 (by decide), Option.bind_some, if_pos rfl, rn, show p + r - p = r by omega]
  | succ m ih =>
    intro r f hi hf hL
    obtain ⟨f, rfl⟩ : ∃ q, f = q + 1 := ⟨f - 1, by omega⟩
    have hb := (h.2 (p + r) (by omega)).1
    rw [P_X11_next_66, here_in h (by omega), Option.bind_some, inL_eq hb, Option.bind_some, rn, nI_1, jn]
    cases q : isL b (p + r) with
    | false => rw [if_pos (show bI false = 0 from rfl), if_neg (by decide), show p + r - p = r by omega]
    | true =>
      have q2 := isL_iff.mp q
      rw [if_neg (show ¬ bI true = 0 by decide), if_pos rfl, pk_sub (by omega), show p + r - p = r by omega]
      have nx := ih (r + 1) f (by omega) (by omega) (fun j g1 g2 => by
        by_cases e : j = p + r
        · rw [e]; exact q
        · exact hL j g1 (by omega))
      by_cases g : 6 ≤ r
      · rw [if_pos (show (6 : Int32) ≤ nI r from nI_le (a := 6) g (by omega))]
        rw [cdx, if_neg (show ¬ r + 1 ≤ 6 by omega)] at nx
        exact nx
      · rw [if_neg (show ¬ (6 : Int32) ≤ nI r from nI_ge (b := 6) (by omega) (by decide)), Option.bind_some, cdx, if_pos (show r ≤ 6 by omega)]
        rw [cdx, if_pos (show r + 1 ≤ 6 by omega), cd] at nx
        have e : (27 * nI (cd b p r)) + nI (b (p + r)) - 96 = nI (27 * cd b p r + (b (p + r) - 96)) := by
          show (nI 27 * nI (cd b p r)) + nI (b (p + r)) - nI 96 = _
          rw [pk_mul, nI_add, pk_sub (by omega), show 27 * cd b p r + b (p + r) - 96 = 27 * cd b p r + (b (p + r) - 96) by omega]
        rw [e]
        exact nx
/-- the number of r digits from i on; past 99 it stays -/
def nv (b : Nat → Nat) : Nat → Nat → Nat → Nat
  | 0, _, x => x
  | m + 1, i, x => nv b m (i + 1) (if 99 < x then x else x * 10 + b i - 48)
theorem nv_stay {b : Nat → Nat} {x : Nat} (h : 99 < x) : ∀ m i, nv b m i x = x := by
  intro m
  induction m with
  | zero => intro i; rfl
  | succ m ih => intro i; rw [nv, if_pos h]; exact ih (i + 1)
theorem nv_le {b : Nat → Nat} : ∀ m i x, (∀ j, i ≤ j → j < i + m → b j < 256) → x ≤ 2000 → nv b m i x ≤ 2000 := by
  intro m
  induction m with
  | zero => intro i x _ h; exact h
  | succ m ih =>
    intro i x hb h
    rw [nv]
    refine ih _ _ (fun j g1 g2 => hb j (by omega) (by omega)) ?_
    have := hb i (Nat.le_refl _) (by omega)
    by_cases q : 99 < x
    · rw [if_pos q]; exact h
    · rw [if_neg q]; omega
theorem digits_m {n : Nat} {b : Nat → Nat} {fB fm : Nat → Int32} {K : Int32 → Int32 → Option (Int32 × Int32 × Int32 × Int32)} (h : TX n b fB fm) : ∀ (m i f x : Nat), i + m = n → m < f → x ≤ 2000 → P_X11_next_204 (nI n) fm K f (nI i) (nI x) = K (nI (rn (isD b) m i)) (nI (nv b (rn (isD b) m i - i) i x)) := by
  have h1 := h.1
  intro m
  induction m with
  | zero =>
    intro i f x hi hf hx
    obtain ⟨f, rfl⟩ : ∃ q, f = q + 1 := ⟨f - 1, by omega⟩
    rw [P_X11_next_204, here_out (by omega) (by omega), Option.bind_some, in_m1 (by decide), Option.bind_some, if_pos rfl, rn, show i - i = 0 by omega]
    rfl
  | succ m ih =>
    intro i f x hi hf hx
    obtain ⟨f, rfl⟩ : ∃ q, f = q + 1 := ⟨f - 1, by omega⟩
    have hb := (h.2 i (by omega)).1
    rw [P_X11_next_204, here_in h (by omega), Option.bind_some, inD_eq hb, Option.bind_some, rn, nI_1, jn]
    cases q : isD b i with
    | false => rw [if_pos (show bI false = 0 from rfl), if_neg (by decide), show i - i = 0 by omega]; rfl
    | true =>
      have q2 := isD_iff.mp q
      have r1 := (rn_all (isD b) m (i + 1)).1
      rw [if_neg (show ¬ bI true = 0 by decide), if_pos rfl, show rn (isD b) m (i + 1) - i = (rn (isD b) m (i + 1) - (i + 1)) + 1 by omega, nv]
      by_cases g : 99 < x
      · rw [if_neg (show ¬ nI x ≤ 99 from nI_ge (a := 99) g (by omega)), if_pos g]
        exact ih (i + 1) f x (by omega) (by omega) hx
      · rw [if_pos (show nI x ≤ 99 from nI_le (b := 99) (by omega) (by decide)), if_neg g, Option.bind_some]
        have e : (10 * nI x) + nI (b i) - 48 = nI (x * 10 + b i - 48) := by
          show (nI 10 * nI x) + nI (b i) - nI 48 = _
          rw [pk_mul, nI_add, pk_sub (by omega), Nat.mul_comm]
        rw [e]
        exact ih (i + 1) f _ (by omega) (by omega) (by omega)
theorem number_loop {n q : Nat} {b : Nat → Nat} {fB fm : Nat → Int32} {K : Int32 → Option Int32} (h : TX n b fB fm) (hq : q ≤ n) : ∀ (m i f x : Nat), i + m = q → m < f → x ≤ 2000 → (∀ j, i ≤ j → j < q → isD b j = true) → P_X7_number_48 (nI q) (nI n) fB K f (nI x) (nI i) = K (nI (nv b m i x)) := by
  have h1 := h.1
  intro m
  induction m with
  | zero =>
    intro i f x hi hf hx hD
    obtain ⟨f, rfl⟩ : ∃ q, f = q + 1 := ⟨f - 1, by omega⟩
    rw [P_X7_number_48, if_pos (nI_le (by omega) (by omega))]
    rfl
  | succ m ih =>
    intro i f x hi hf hx hD
    obtain ⟨f, rfl⟩ : ∃ q, f = q + 1 := ⟨f - 1, by omega⟩
    have hb := (h.2 i (by omega)).1
    have q2 := isD_iff.mp (hD i (Nat.le_refl _) (by omega))
    rw [P_X7_number_48, if_neg (nI_ge (by omega) (by omega)), nv]
    by_cases g : 99 < x
    · rw [if_pos (show (99 : Int32) < nI x from nI_lt (a := 99) g (by omega)), if_pos g, nv_stay g]
    · rw [if_neg (show ¬ (99 : Int32) < nI x from nI_nlt (a := 99) (by omega) (by decide)), if_neg g, byteAt_in h (by omega), Option.bind_some, nI_1]
      have e : (nI x * 10) + nI (b i) - 48 = nI (x * 10 + b i - 48) := by
        show (nI x * nI 10) + nI (b i) - nI 48 = _
        rw [pk_mul, nI_add, pk_sub (by omega)]
      rw [e]
      exact ih (i + 1) f _ (by omega) (by omega) (by omega) (fun j g1 g2 => hD j (by omega) g2)
