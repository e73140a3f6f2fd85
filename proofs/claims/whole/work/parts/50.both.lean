/-! one step of both -/
def STEP (n : Nat) (fB fm : Nat → Int32) (i q p s : Nat) (v : Int32) : Prop := ∃ kd, (∀ p0 k0 : Int32, P_X7_step (nI i) p0 k0 (nI n) fB = some (nI q, nI p, kd)) ∧ (∀ s0 t0 v0 : Int32, P_X11_next (nI n) (nI i) s0 t0 v0 fm = some (nI q, nI p, nI s, v)) ∧ TKC n fB q p kd s v ∧ i ≤ p ∧ p ≤ q ∧ q ≤ n ∧ (s ≠ 9 → p < q) ∧ s ≤ 10
theorem step_both {n i : Nat} {b : Nat → Nat} {fB fm : Nat → Int32} (h : TX n b fB fm) (hi : i ≤ n) : ∃ q p s v, STEP n fB fm i q p s v := by
  have h1 := h.1
  obtain ⟨r1, r2, -, r4⟩ := rn_all (isB b) (n - i) i
  generalize hj : rn (isB b) (n - i) i = j at r1 r2 r4
  have hjn : j ≤ n := by omega
  have sc : ∀ (K : Int32 → Option (Int32 × Int32 × Int32)), P_X7_step_0 (nI n) fB K QF (nI i) = K (nI j) := fun K => by
    rw [blanks_c h (n - i) i QF (by omega) (by unfold QF; omega), hj]
  have sm : ∀ (K : Int32 → Option (Int32 × Int32 × Int32 × Int32)), P_X11_next_0 (nI n) fm K QF (nI i) = K (nI j) := fun K => by
    rw [blanks_m h (n - i) i QF (by omega) (by unfold QF; omega), hj]
  by_cases hn : j < n
  · have hb := (h.2 j hn).1
    obtain ⟨l1, l2, l3, l4⟩ := rn_all (isL b) (n - j) j
    obtain ⟨d1, d2, d3, d4⟩ := rn_all (isD b) (n - j) j
    cases hL : isL b j with
    | true =>
      have lq : j < rn (isL b) (n - j) j := by
        rcases Nat.lt_or_ge j (rn (isL b) (n - j) j) with g | g
        · exact g
        · have e : rn (isL b) (n - j) j = j := by omega
          have := l4 (by omega)
          rw [e, hL] at this
          cases this
      refine ⟨_, j, _, _, 2, ?_, ?_, name_tk h (show rn (isL b) (n - j) j ≤ n by omega) lq l3, r1, l1, by omega, fun _ => lq, ?_⟩
      · intro p0 k0
        unfold P_X7_step
        rw [jn, sc, byteAt_in h hn, Option.bind_some]
        unfold P_X6_size P_X7_passLetters
        rw [Option.bind_some, if_pos (nI_lt hn (by omega)), isLetter_eq hb, Option.bind_some, hL, if_neg (show ¬ bI true = 0 by decide), letters_c h (n - j) j QF (by omega) (by unfold QF; omega), Option.bind_some]
      · intro s0 t0 v0
        unfold P_X11_next
        rw [jn, sm, here_in h hn, Option.bind_some, if_pos (nI_pos' (by omega)), inL_eq hb, Option.bind_some, hL, if_neg (show ¬ bI true = 0 by decide), jn]
        have lm := fun K => letters_m (p := j) (K := K) h (n - j) 0 QF (by omega) (by unfold QF; omega) (fun x g1 g2 => absurd g2 (by omega))
        have lm' : ∀ K, P_X11_next_66 (nI n) fm (nI j) K QF 0 (nI j) = K (nI (cdx b j (rn (isL b) (n - j) j - j))) (nI (rn (isL b) (n - j) j)) := lm
        rw [lm']
        generalize hr : rn (isL b) (n - j) j = q at lq l2
        obtain ⟨r, rfl⟩ : ∃ r, q = j + r := ⟨q - j, by omega⟩
        rw [show j + r - j = r by omega, jn, pk_sub (by omega), show j + r - j = r by omega]
        have hcd : cdx b j r < 2 ^ 31 := by
          rw [cdx]
          by_cases g : r ≤ 6
          · rw [if_pos g]
            have := (cd_bnd (b := b) (p := j) r (fun x g1 g2 => l3 x g1 (by rw [hr]; omega))).1
            have e : 27 ^ r ≤ 27 ^ 6 := Nat.pow_le_pow_right (by decide) (by omega)
            have e6 : 27 ^ 6 = 387420489 := by decide
            omega
          · rw [if_neg g]; decide
        have fin : ∀ x, x = cdx b j r → jn (fun (x180_s1 : Int32) => some (nI (j + r), nI j, x180_s1, nI x - 1)) (fun j180 => if nI x = 47600141 then j180 0 else if nI x = 23 then j180 2 else (P_X11_in (nI x) 1 3).bind fun z => if z = 0 then j180 10 else j180 1) = some (nI (j + r), nI j, nI (nsr (cdx b j r)), nI (cdx b j r) - 1) := by
          rintro x rfl
          rw [jn, nsr]
          by_cases e1 : cdx b j r = 47600141
          · rw [if_pos (show nI (cdx b j r) = 47600141 by rw [e1]; rfl), if_pos e1]; rfl
          · rw [if_neg (show ¬ nI (cdx b j r) = 47600141 from fun z => e1 ((nI_eq (b := 47600141) hcd (by decide)).mp z)), if_neg e1]
            by_cases e2 : cdx b j r = 23
            · rw [if_pos (show nI (cdx b j r) = 23 by rw [e2]; rfl), if_pos e2]; rfl
            · rw [if_neg (show ¬ nI (cdx b j r) = 23 from fun z => e2 ((nI_eq (b := 23) hcd (by decide)).mp z)), if_neg e2]
              have hin : P_X11_in (nI (cdx b j r)) 1 3 = some (bI (decide (1 ≤ cdx b j r) && decide (cdx b j r ≤ 3))) := inb_eq (lo := 1) (hi := 3) hcd (by decide) (by decide)
              rw [hin, Option.bind_some]
              by_cases e3 : 1 ≤ cdx b j r ∧ cdx b j r ≤ 3
              · rw [if_pos e3, decide_eq_true e3.1, decide_eq_true e3.2, if_neg (show ¬ bI (true && true) = 0 by decide)]; rfl
              · have : (decide (1 ≤ cdx b j r) && decide (cdx b j r ≤ 3)) = false := by
                  rw [Bool.eq_false_iff, ne_eq, Bool.and_eq_true, decide_eq_true_eq, decide_eq_true_eq]; exact e3
                rw [if_neg e3, this, if_pos (show bI false = 0 from rfl)]; rfl
        by_cases g : r ≤ 6
        · rw [if_pos (show nI r ≤ 6 from nI_le (b := 6) g (by decide))]
          exact fin _ rfl
        · rw [if_neg (show ¬ nI r ≤ 6 from nI_ge (a := 6) (by omega) (by omega))]
          exact fin 0 (by rw [cdx, if_neg g])
      · rw [nsr]
        split
        · decide
        · split
          · decide
          · split <;> decide
    | false =>
      cases hD : isD b j with
      | true =>
        have lq : j < rn (isD b) (n - j) j := by
          rcases Nat.lt_or_ge j (rn (isD b) (n - j) j) with g | g
          · exact g
          · have e : rn (isD b) (n - j) j = j := by omega
            have := d4 (by omega)
            rw [e, hD] at this
            cases this
        refine ⟨_, j, _, _, 3, ?_, ?_, number_tk h (show rn (isD b) (n - j) j ≤ n by omega) lq d3, r1, d1, by omega, fun _ => lq, ?_⟩
        · intro p0 k0
          unfold P_X7_step
          rw [jn, sc, byteAt_in h hn, Option.bind_some]
          unfold P_X6_size P_X7_passDigits
          rw [Option.bind_some, if_pos (nI_lt hn (by omega)), isLetter_eq hb, Option.bind_some, hL, if_pos (show bI false = 0 from rfl), isDigit_eq hb, Option.bind_some, hD, if_neg (show ¬ bI true = 0 by decide), digits_c h (n - j) j QF (by omega) (by unfold QF; omega), Option.bind_some]
        · intro s0 t0 v0
          unfold P_X11_next
          rw [jn, sm, here_in h hn, Option.bind_some, if_pos (nI_pos' (by omega)), inL_eq hb, Option.bind_some, hL, if_pos (show bI false = 0 from rfl), inD_eq hb, Option.bind_some, hD, if_neg (show ¬ bI true = 0 by decide), jn]
          have dm := fun K => digits_m (K := K) h (n - j) j QF 0 (by omega) (by unfold QF; omega) (by decide)
          have dm' : ∀ K, P_X11_next_204 (nI n) fm K QF (nI j) 0 = K (nI (rn (isD b) (n - j) j)) (nI (nv b (rn (isD b) (n - j) j - j) j 0)) := dm
          rw [dm']
          generalize hr : rn (isD b) (n - j) j = q at lq d2
          obtain ⟨r, rfl⟩ : ∃ r, q = j + r := ⟨q - j, by omega⟩
          rw [show j + r - j = r by omega]
          have hv := nv_le (b := b) r j 0 (fun x g1 g2 => (h.2 x (by omega)).1) (by decide)
          show jn _ _ = _
          rw [jn]
          show jn _ _ = _
          rw [jn, usr, pk_sub (by omega), show j + r - j = r by omega]
          by_cases g : 99 < nv b r j 0
          · rw [if_pos (show (99 : Int32) < nI (nv b r j 0) from nI_lt (a := 99) g (by omega)), if_pos g]; rfl
          · rw [if_neg (show ¬ (99 : Int32) < nI (nv b r j 0) from nI_nlt (a := 99) (by omega) (by decide)), if_neg g]
            show jn _ _ = _
            rw [jn]
            by_cases e : b j = 48
            · rw [if_pos (show nI (b j) = 48 by rw [e]; rfl)]
              by_cases r1 : r ≤ 1
              · rw [if_pos (show nI r ≤ 1 from nI_le (b := 1) r1 (by decide)), if_neg (show ¬ (b j = 48 ∧ 1 < r) by omega)]; rfl
              · rw [if_neg (show ¬ nI r ≤ 1 from nI_ge (a := 1) (by omega) (by omega)), if_pos (show b j = 48 ∧ 1 < r from ⟨e, by omega⟩)]; rfl
            · rw [if_neg (show ¬ nI (b j) = 48 from fun z => e ((nI_eq (b := 48) (by omega) (by decide)).mp z)), if_neg (show ¬ (b j = 48 ∧ 1 < r) from fun z => e z.1)]; rfl
        · rw [usr]
          split
          · decide
          · split <;> decide
      | false =>
        obtain ⟨⟨m1, m2, m3, m4, m5, m6⟩, k2, k3, s0, s1, s2, s3, s9, s10⟩ := mark_kd (b j) hb (if msr (b j) = 10 then 1 else nI (b j)) rfl
        have pl := kd_plain (n := n) (q := j + 1) (p := j) (fB := fB) (v := 0) k2 k3 s0 s1 s2 s3
        refine ⟨j + 1, j, msr (b j), 0, (if msr (b j) = 10 then 1 else nI (b j)), ?_, ?_, ⟨m1, m2, m3, m4, m5, m6, pl⟩, r1, by omega, by omega, fun _ => by omega, s10⟩
        · intro p0 k0
          unfold P_X7_step
          rw [jn, sc, byteAt_in h hn, Option.bind_some]
          unfold P_X6_size
          rw [Option.bind_some, if_pos (nI_lt hn (by omega)), isLetter_eq hb, Option.bind_some, hL, if_pos (show bI false = 0 from rfl), isDigit_eq hb, Option.bind_some, hD, if_pos (show bI false = 0 from rfl), isMark_eq _ hb, Option.bind_some, jn, nI_1]
          by_cases e : msr (b j) = 10
          · rw [e, if_pos (show bI (10 != 10) = 0 from rfl), if_pos rfl]
          · rw [if_neg (show ¬ bI (msr (b j) != 10) = 0 by rw [show (msr (b j) != 10) = true from bne_iff_ne.mpr e]; decide), if_neg e]
        · intro s0 t0 v0
          unfold P_X11_next
          rw [jn, sm, here_in h hn, Option.bind_some, if_pos (nI_pos' (by omega)), inL_eq hb, Option.bind_some, hL, if_pos (show bI false = 0 from rfl), inD_eq hb, Option.bind_some, hD, if_pos (show bI false = 0 from rfl), signOf_eq _ hb, Option.bind_some, nI_1]
  · have e : j = n := by omega
    have pl := kd_plain (n := n) (q := n) (p := n) (s := 9) (fB := fB) (kd := 0) (v := 0) (by decide) (by decide) (by decide) (by decide) (by decide) (by decide)
    refine ⟨n, n, 9, 0, 0, ?_, ?_, ⟨rfl, rfl, rfl, rfl, rfl, rfl, pl⟩, by omega, by omega, by omega, fun z => absurd rfl z, by decide⟩
    · intro p0 k0
      unfold P_X7_step
      rw [jn, sc, byteAt_out (by omega) (by omega), Option.bind_some, e]
      unfold P_X6_size
      rw [Option.bind_some, if_neg (nI_nlt (Nat.le_refl _) (by omega))]
    · intro s0 t0 v0
      unfold P_X11_next
      rw [jn, sm, here_out (by omega) (by omega), Option.bind_some, if_neg (by decide), e]
      rfl
