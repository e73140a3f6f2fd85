/-! one token, as both see it: s is its sort, v its value -/
def lt3 (s : Nat) (v x : Int32) : Prop := (s = 2 ∧ x = 119) ∨ (s = 1 ∧ ∃ c, c < 3 ∧ x = nI (97 + c) ∧ v = nI c) ∨ (s ≠ 1 ∧ s ≠ 2 ∧ ∃ y, x = nI y ∧ y < 256 ∧ y ≠ 119 ∧ ¬ (97 ≤ y ∧ y ≤ 99))
def TKC (n : Nat) (fB : Nat → Int32) (q p : Nat) (kd : Int32) (s : Nat) (v : Int32) : Prop := P_X7_is 0 kd = some (bI (s == 9)) ∧ P_X7_is 59 kd = some (bI (s == 4)) ∧ P_X7_is 124 kd = some (bI (s == 5)) ∧ P_X7_is 38 kd = some (bI (s == 6)) ∧ P_X7_is 40 kd = some (bI (s == 7)) ∧ P_X7_is 41 kd = some (bI (s == 8)) ∧ P_X7_isChoice (nI q) (nI p) kd (nI n) fB = some (bI (s == 0)) ∧ P_X7_number (nI q) (nI p) kd (nI n) fB = some (if s = 3 then v else -1) ∧ (s = 3 → ∃ x, x ≤ 99 ∧ v = nI x) ∧ ∃ x, P_X7_letter (nI q) (nI p) kd (nI n) fB = some x ∧ lt3 s v x
theorem kd_plain {n q p s : Nat} {fB : Nat → Int32} {kd v : Int32} (h2 : ¬ kd = 2) (h3 : ¬ kd = 3) (s0 : s ≠ 0) (s1 : s ≠ 1) (s2 : s ≠ 2) (s3 : s ≠ 3) : P_X7_isChoice (nI q) (nI p) kd (nI n) fB = some (bI (s == 0)) ∧ P_X7_number (nI q) (nI p) kd (nI n) fB = some (if s = 3 then v else -1) ∧ (s = 3 → ∃ x, x ≤ 99 ∧ v = nI x) ∧ ∃ x, P_X7_letter (nI q) (nI p) kd (nI n) fB = some x ∧ lt3 s v x := by
  unfold P_X7_isChoice P_X7_number P_X7_letter
  rw [if_neg h2, if_neg h3, if_neg h2, if_neg s3, beq_eq_false_iff_ne.mpr s0]
  exact ⟨rfl, rfl, fun z => absurd z s3, 0, rfl, Or.inr (Or.inr ⟨s1, s2, 0, rfl, by decide, by decide, by decide⟩)⟩
theorem chs_at : chs 0 = nI 99 ∧ chs 1 = nI 104 ∧ chs 2 = nI 111 ∧ chs 3 = nI 105 ∧ chs 4 = nI 99 ∧ chs 5 = nI 101 := ⟨rfl, rfl, rfl, rfl, rfl, rfl⟩
def cw (i : Nat) : Nat := ([99, 104, 111, 105, 99, 101] : List Nat).getD i 0
theorem chs_cw : ∀ i, i < 6 → chs i = nI (cw i) ∧ cw i < 256 := by decide +kernel
theorem isChoice_loop {n p : Nat} {b : Nat → Nat} {fB fm : Nat → Int32} (h : TX n b fB fm) (hp : p + 6 ≤ n) : ∀ (m i f : Nat), i + m = 6 → m < f → ∃ c, P_X7_isChoice_29 (nI p) (nI n) fB f (nI i) = some (bI c) ∧ (c = true ↔ ∀ j, i ≤ j → j < 6 → b (p + j) = cw j) := by
  have h1 := h.1
  intro m
  induction m with
  | zero =>
    intro i f hi hf
    obtain ⟨f, rfl⟩ : ∃ q, f = q + 1 := ⟨f - 1, by omega⟩
    rw [P_X7_isChoice_29, if_pos (show (6 : Int32) ≤ nI i from nI_le (a := 6) (by omega) (by omega))]
    exact ⟨true, rfl, fun _ j g1 g2 => absurd g2 (by omega), fun _ => rfl⟩
  | succ m ih =>
    intro i f hi hf
    obtain ⟨f, rfl⟩ : ∃ q, f = q + 1 := ⟨f - 1, by omega⟩
    have hb := (h.2 (p + i) (by omega)).1
    obtain ⟨e1, e2⟩ := chs_cw i (by omega)
    obtain ⟨c, c1, c2⟩ := ih (i + 1) f (by omega) (by omega)
    rw [P_X7_isChoice_29, if_neg (show ¬ (6 : Int32) ≤ nI i from nI_ge (b := 6) (by omega) (by decide)), nI_add, byteAt_in h (by omega), Option.bind_some, ck_in _ (by omega) (by decide), nI_clamp (by omega), e1, nI_1]
    by_cases q : b (p + i) = cw i
    · rw [if_pos (by rw [q])]
      refine ⟨c, c1, c2.trans ⟨fun z j g1 g2 => ?_, fun z j g1 g2 => z j (by omega) g2⟩⟩
      by_cases e : j = i
      · rw [e]; exact q
      · exact z j (by omega) g2
    · rw [if_neg (fun z => q ((nI_eq (by omega) (by omega)).mp z))]
      exact ⟨false, rfl, (fun z => absurd z (by decide)), fun z => absurd (z i (Nat.le_refl _) (by omega)) q⟩
theorem choice_code {b : Nat → Nat} {p : Nat} (hL : ∀ j, p ≤ j → j < p + 6 → isL b j = true) : cd b p 6 = 47600141 ↔ ∀ j, 0 ≤ j → j < 6 → b (p + j) = cw j := by
  have l0 := isL_iff.mp (hL (p + 0) (by omega) (by omega))
  have l1 := isL_iff.mp (hL (p + 1) (by omega) (by omega))
  have l2 := isL_iff.mp (hL (p + 2) (by omega) (by omega))
  have l3 := isL_iff.mp (hL (p + 3) (by omega) (by omega))
  have l4 := isL_iff.mp (hL (p + 4) (by omega) (by omega))
  have l5 := isL_iff.mp (hL (p + 5) (by omega) (by omega))
  simp only [cd]
  constructor
  · intro z j _ hj
    have k5 : b (p + 5) - 96 = 5 ∧ 27 * (27 * (27 * (27 * 0 + (b (p + 0) - 96)) + (b (p + 1) - 96)) + (b (p + 2) - 96)) + (b (p + 3) - 96) = 65295 ∧ b (p + 4) - 96 = 3 := by omega
    have k3 : b (p + 3) - 96 = 9 ∧ b (p + 2) - 96 = 15 ∧ b (p + 1) - 96 = 8 ∧ b (p + 0) - 96 = 3 := by omega
    rcases (show j = 0 ∨ j = 1 ∨ j = 2 ∨ j = 3 ∨ j = 4 ∨ j = 5 by omega) with rfl | rfl | rfl | rfl | rfl | rfl
    · show b (p + 0) = 99; omega
    · show b (p + 1) = 104; omega
    · show b (p + 2) = 111; omega
    · show b (p + 3) = 105; omega
    · show b (p + 4) = 99; omega
    · show b (p + 5) = 101; omega
  · intro z
    have z0 : b (p + 0) = 99 := z 0 (by omega) (by omega)
    have z1 : b (p + 1) = 104 := z 1 (by omega) (by omega)
    have z2 : b (p + 2) = 111 := z 2 (by omega) (by omega)
    have z3 : b (p + 3) = 105 := z 3 (by omega) (by omega)
    have z4 : b (p + 4) = 99 := z 4 (by omega) (by omega)
    have z5 : b (p + 5) = 101 := z 5 (by omega) (by omega)
    omega
/-- the sort of a NAME by its code -/
def nsr (c : Nat) : Nat := if c = 47600141 then 0 else if c = 23 then 2 else if 1 ≤ c ∧ c ≤ 3 then 1 else 10
theorem name_tk {n p q : Nat} {b : Nat → Nat} {fB fm : Nat → Int32} (h : TX n b fB fm) (hq : q ≤ n) (hpq : p < q) (hL : ∀ j, p ≤ j → j < q → isL b j = true) : TKC n fB q p 2 (nsr (cdx b p (q - p))) (nI (cdx b p (q - p)) - 1) := by
  have h1 := h.1
  obtain ⟨r, rfl⟩ : ∃ r, q = p + r := ⟨q - p, by omega⟩
  have hd : p + r - p = r := by omega
  rw [hd]
  have ns : ∀ c, nsr c = 0 ∨ nsr c = 1 ∨ nsr c = 2 ∨ nsr c = 10 := by
    intro c
    rw [nsr]
    split
    · exact Or.inl rfl
    · split
      · exact Or.inr (Or.inr (Or.inl rfl))
      · split
        · exact Or.inr (Or.inl rfl)
        · exact Or.inr (Or.inr (Or.inr rfl))
  have n3 : nsr (cdx b p r) ≠ 3 := by rcases ns (cdx b p r) with e | e | e | e <;> rw [e] <;> decide
  have big : 2 ≤ r → r ≤ 6 → 27 ≤ cd b p r ∧ cd b p r ≠ 23 := by
    intro g g6
    have := (cd_bnd r hL).2 (by omega)
    have e : 27 ^ 1 ≤ 27 ^ (r - 1) := Nat.pow_le_pow_right (by decide) (by omega)
    omega
  have small : r < 6 → cd b p r < 47600141 := by
    intro g
    have := (cd_bnd r hL).1
    have e : 27 ^ r ≤ 27 ^ 5 := Nat.pow_le_pow_right (by decide) (by omega)
    have e5 : 27 ^ 5 = 14348907 := by decide
    omega
  have one : r = 1 → cd b p r = b p - 96 := by
    intro e; rw [e, cd, cd]; simp
  refine ⟨?_, ?_, ?_, ?_, ?_, ?_, ?_, ?_, fun z => absurd z n3, ?_⟩
  · rw [show (nsr (cdx b p r) == 9) = false from beq_eq_false_iff_ne.mpr (by rcases ns (cdx b p r) with e | e | e | e <;> rw [e] <;> decide)]; rfl
  · rw [show (nsr (cdx b p r) == 4) = false from beq_eq_false_iff_ne.mpr (by rcases ns (cdx b p r) with e | e | e | e <;> rw [e] <;> decide)]; rfl
  · rw [show (nsr (cdx b p r) == 5) = false from beq_eq_false_iff_ne.mpr (by rcases ns (cdx b p r) with e | e | e | e <;> rw [e] <;> decide)]; rfl
  · rw [show (nsr (cdx b p r) == 6) = false from beq_eq_false_iff_ne.mpr (by rcases ns (cdx b p r) with e | e | e | e <;> rw [e] <;> decide)]; rfl
  · rw [show (nsr (cdx b p r) == 7) = false from beq_eq_false_iff_ne.mpr (by rcases ns (cdx b p r) with e | e | e | e <;> rw [e] <;> decide)]; rfl
  · rw [show (nsr (cdx b p r) == 8) = false from beq_eq_false_iff_ne.mpr (by rcases ns (cdx b p r) with e | e | e | e <;> rw [e] <;> decide)]; rfl
  · unfold P_X7_isChoice
    rw [if_pos rfl, pk_sub (by omega), hd]
    have n0 : nsr (cdx b p r) = 0 ↔ cdx b p r = 47600141 := by
      rw [nsr]
      by_cases e : cdx b p r = 47600141
      · rw [if_pos e]; exact ⟨fun _ => e, fun _ => rfl⟩
      · rw [if_neg e]
        refine ⟨fun z => ?_, fun z => absurd z e⟩
        split at z
        · cases z
        · split at z <;> cases z
    by_cases r6 : r = 6
    · rw [if_pos (show nI r = 6 by rw [r6]; rfl)]
      obtain ⟨c, c1, c2⟩ := isChoice_loop h (show p + 6 ≤ n by omega) 6 0 QF (by omega) (by unfold QF; omega)
      have c1' : P_X7_isChoice_29 (nI p) (nI n) fB QF 0 = some (bI c) := c1
      rw [c1']
      congr 1
      congr 1
      rw [Bool.eq_iff_iff, c2, beq_iff_eq, n0, cdx, if_pos (by omega), r6]
      exact (choice_code (by rw [← r6]; exact hL)).symm
    · rw [if_neg (show ¬ nI r = 6 from fun z => r6 ((nI_eq (b := 6) (by omega) (by decide)).mp z))]
      have : ¬ nsr (cdx b p r) = 0 := by
        rw [n0, cdx]
        by_cases g : r ≤ 6
        · rw [if_pos g]; have := small (by omega); omega
        · rw [if_neg g]; decide
      rw [beq_eq_false_iff_ne.mpr this]; rfl
  · unfold P_X7_number
    rw [if_neg (by decide), if_neg n3]
  · unfold P_X7_letter
    rw [if_pos rfl, pk_sub (by omega), hd]
    by_cases r1 : r = 1
    · have hbp := isL_iff.mp (hL p (Nat.le_refl _) hpq)
      rw [if_pos (show nI r = 1 by rw [r1]; rfl), byteAt_in h (by omega), Option.bind_some]
      refine ⟨nI (b p), rfl, ?_⟩
      have ec : cdx b p r = b p - 96 := by rw [cdx, if_pos (by omega), one r1]
      rw [ec, nsr, if_neg (by omega)]
      by_cases ew : b p - 96 = 23
      · rw [if_pos ew]
        exact Or.inl ⟨rfl, by rw [show b p = 119 by omega]; rfl⟩
      · rw [if_neg ew]
        by_cases ea : 1 ≤ b p - 96 ∧ b p - 96 ≤ 3
        · rw [if_pos ea]
          refine Or.inr (Or.inl ⟨rfl, b p - 97, by omega, by rw [show 97 + (b p - 97) = b p by omega], ?_⟩)
          show nI (b p - 96) - nI 1 = _
          rw [pk_sub (by omega), show b p - 96 - 1 = b p - 97 by omega]
        · rw [if_neg ea]
          exact Or.inr (Or.inr ⟨by decide, by decide, b p, rfl, by omega, by omega, by omega⟩)
    · rw [if_neg (show ¬ nI r = 1 from fun z => r1 ((nI_eq (b := 1) (by omega) (by decide)).mp z))]
      refine ⟨0, rfl, Or.inr (Or.inr ⟨?_, ?_, 0, rfl, by decide, by decide, by decide⟩)⟩
      · intro z
        rw [nsr] at z
        split at z
        · cases z
        · split at z
          · cases z
          · split at z
            · rename_i g
              rw [cdx] at g
              by_cases g6 : r ≤ 6
              · rw [if_pos g6] at g; have := (big (by omega) g6).1; omega
              · rw [if_neg g6] at g; omega
            · cases z
      · intro z
        rw [nsr] at z
        split at z
        · cases z
        · split at z
          · rename_i g
            rw [cdx] at g
            by_cases g6 : r ≤ 6
            · rw [if_pos g6] at g; exact (big (by omega) g6).2 g
            · rw [if_neg g6] at g; cases g
          · split at z <;> cases z
/-- the sort of a NUMBER -/
def usr (b : Nat → Nat) (p r : Nat) : Nat := if 99 < nv b r p 0 then 10 else if b p = 48 ∧ 1 < r then 10 else 3
theorem number_tk {n p q : Nat} {b : Nat → Nat} {fB fm : Nat → Int32} (h : TX n b fB fm) (hq : q ≤ n) (hpq : p < q) (hD : ∀ j, p ≤ j → j < q → isD b j = true) : TKC n fB q p 3 (usr b p (q - p)) (nI (nv b (q - p) p 0)) := by
  have h1 := h.1
  obtain ⟨r, rfl⟩ : ∃ r, q = p + r := ⟨q - p, by omega⟩
  have hd : p + r - p = r := by omega
  rw [hd]
  have ns : usr b p r = 3 ∨ usr b p r = 10 := by
    rw [usr]
    split
    · exact Or.inr rfl
    · split
      · exact Or.inr rfl
      · exact Or.inl rfl
  have hb := (h.2 p (by omega)).1
  have hv := nv_le (b := b) r p 0 (fun j g1 g2 => (h.2 j (by omega)).1) (by decide)
  have lp := number_loop (K := fun x => if 99 < x then some (-1) else some x) h hq r p QF 0 (by omega) (by unfold QF; omega) (by decide) hD
  have lp' : P_X7_number_48 (nI (p + r)) (nI n) fB _ QF 0 (nI p) = _ := lp
  refine ⟨?_, ?_, ?_, ?_, ?_, ?_, ?_, ?_, ?_, ?_⟩
  · rcases ns with e | e <;> rw [e] <;> rfl
  · rcases ns with e | e <;> rw [e] <;> rfl
  · rcases ns with e | e <;> rw [e] <;> rfl
  · rcases ns with e | e <;> rw [e] <;> rfl
  · rcases ns with e | e <;> rw [e] <;> rfl
  · rcases ns with e | e <;> rw [e] <;> rfl
  · unfold P_X7_isChoice
    rw [if_neg (by decide)]
    rcases ns with e | e <;> rw [e] <;> rfl
  · unfold P_X7_number
    rw [if_pos rfl, jn, jn, pk_sub (by omega), hd, lp', usr]
    have fin : (if (99 : Int32) < nI (nv b r p 0) then (some (-1) : Option Int32) else some (nI (nv b r p 0))) = some (if 99 < nv b r p 0 then -1 else nI (nv b r p 0)) := by
      by_cases g : 99 < nv b r p 0
      · rw [if_pos (show (99 : Int32) < nI (nv b r p 0) from nI_lt (a := 99) g (by omega)), if_pos g]
      · rw [if_neg (show ¬ (99 : Int32) < nI (nv b r p 0) from nI_nlt (a := 99) (by omega) (by decide)), if_neg g]
    show (if nI r ≤ 1 then (if (99 : Int32) < nI (nv b r p 0) then (some (-1) : Option Int32) else some (nI (nv b r p 0))) else (P_X6_byteAt (nI p) (nI n) fB).bind fun z => if z = 48 then some (-1) else (if (99 : Int32) < nI (nv b r p 0) then (some (-1) : Option Int32) else some (nI (nv b r p 0)))) = _
    rw [fin, byteAt_in h (by omega), Option.bind_some]
    by_cases r1 : r ≤ 1
    · rw [if_pos (show nI r ≤ 1 from nI_le (b := 1) r1 (by decide))]
      by_cases g : 99 < nv b r p 0
      · rw [if_pos g, if_pos g]; rfl
      · rw [if_neg g, if_neg g, if_neg (show ¬ (b p = 48 ∧ 1 < r) by omega)]; rfl
    · rw [if_neg (show ¬ nI r ≤ 1 from nI_ge (a := 1) (by omega) (by omega))]
      by_cases e : b p = 48
      · rw [if_pos (show nI (b p) = 48 by rw [e]; rfl), if_pos (show b p = 48 ∧ 1 < r from ⟨e, by omega⟩)]
        by_cases g : 99 < nv b r p 0
        · rw [if_pos g]; rfl
        · rw [if_neg g]; rfl
      · rw [if_neg (show ¬ nI (b p) = 48 from fun z => e ((nI_eq (b := 48) (by omega) (by decide)).mp z)), if_neg (show ¬ (b p = 48 ∧ 1 < r) from fun z => e z.1)]
        by_cases g : 99 < nv b r p 0
        · rw [if_pos g, if_pos g]; rfl
        · rw [if_neg g, if_neg g]; rfl
  · intro z
    refine ⟨nv b r p 0, ?_, rfl⟩
    rw [usr] at z
    by_cases g : 99 < nv b r p 0
    · rw [if_pos g] at z; cases z
    · omega
  · unfold P_X7_letter
    rw [if_neg (by decide)]
    exact ⟨0, rfl, Or.inr (Or.inr ⟨by rcases ns with e | e <;> rw [e] <;> decide, by rcases ns with e | e <;> rw [e] <;> decide, 0, rfl, by decide, by decide, by decide⟩)⟩
/-- the sort of a mark -/
def msr (c : Nat) : Nat := if c = 59 then 4 else if c = 124 then 5 else if c = 38 then 6 else if c = 40 then 7 else if c = 41 then 8 else 10
theorem signOf_eq : ∀ c, c < 256 → P_X11_signOf (nI c) = some (nI (msr c)) := by decide +kernel
theorem isMark_eq : ∀ c, c < 256 → P_X7_isMark (nI c) = some (bI (msr c != 10)) := by decide +kernel
theorem mark_kd : ∀ c, c < 256 → ∀ kd : Int32, kd = (if msr c = 10 then 1 else nI c) → (P_X7_is 0 kd = some (bI (msr c == 9)) ∧ P_X7_is 59 kd = some (bI (msr c == 4)) ∧ P_X7_is 124 kd = some (bI (msr c == 5)) ∧ P_X7_is 38 kd = some (bI (msr c == 6)) ∧ P_X7_is 40 kd = some (bI (msr c == 7)) ∧ P_X7_is 41 kd = some (bI (msr c == 8))) ∧ ¬ kd = 2 ∧ ¬ kd = 3 ∧ msr c ≠ 0 ∧ msr c ≠ 1 ∧ msr c ≠ 2 ∧ msr c ≠ 3 ∧ msr c ≠ 9 ∧ msr c ≤ 10 := by
  intro c hc kd hkd
  subst hkd
  revert hc
  revert c
  decide +kernel
