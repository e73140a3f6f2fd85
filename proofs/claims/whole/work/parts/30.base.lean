/-! numbers and sets of worlds, as the pure programs use them -/
theorem e0 : (0 : Int32) = nI 0 := rfl
theorem e1 : (1 : Int32) = nI 1 := rfl
theorem e2 : (2 : Int32) = nI 2 := rfl
theorem e3 : (3 : Int32) = nI 3 := rfl
theorem e5 : (5 : Int32) = nI 5 := rfl
theorem e6 : (6 : Int32) = nI 6 := rfl
theorem e7 : (7 : Int32) = nI 7 := rfl
theorem e8 : (8 : Int32) = nI 8 := rfl
theorem e9 : (9 : Int32) = nI 9 := rfl
theorem e10 : (10 : Int32) = nI 10 := rfl
theorem e30 : (30 : Int32) = nI 30 := rfl
theorem e31 : (31 : Int32) = nI 31 := rfl
theorem e32 : (32 : Int32) = nI 32 := rfl
theorem e99 : (99 : Int32) = nI 99 := rfl
theorem e200 : (200 : Int32) = nI 200 := rfl
theorem e255 : (255 : Int32) = nI 255 := rfl
theorem e512 : (512 : Int32) = nI 512 := rfl
theorem em1 : (-1 : Int32) = nI 4294967295 := rfl
theorem nx_and (a b : Nat) : nI a &&& nI b = nI (a &&& b) := by
  apply Int32.toBitVec_inj.1
  show BitVec.ofNat 32 a &&& BitVec.ofNat 32 b = BitVec.ofNat 32 (a &&& b)
  apply BitVec.eq_of_getLsbD_eq
  intro i hi
  simp [hi]
theorem nx_xor (a b : Nat) : nI a ^^^ nI b = nI (a ^^^ b) := by
  apply Int32.toBitVec_inj.1
  show BitVec.ofNat 32 a ^^^ BitVec.ofNat 32 b = BitVec.ofNat 32 (a ^^^ b)
  apply BitVec.eq_of_getLsbD_eq
  intro i hi
  simp [hi]
theorem nx_or (a b : Nat) : nI a ||| nI b = nI (a ||| b) := by
  apply Int32.toBitVec_inj.1
  show BitVec.ofNat 32 a ||| BitVec.ofNat 32 b = BitVec.ofNat 32 (a ||| b)
  apply BitVec.eq_of_getLsbD_eq
  intro i hi
  simp [hi]
theorem nx_cut (a : Nat) : nI (a % 4294967296) = nI a := by
  apply Int32.toBitVec_inj.1
  apply BitVec.eq_of_toNat_eq
  show (BitVec.ofNat 32 (a % 4294967296)).toNat = (BitVec.ofNat 32 a).toNat
  simp
theorem sml : ∀ w, w < 32 → ((nI w &&& 31).toBitVec.smod 32).toNat = w := by decide +kernel
theorem nx_one {w : Nat} (h : w < 32) : (1 : Int32) <<< (nI w &&& 31) = nI (2 ^ w) := by
  have h1 : 2 ^ w < 2 ^ 32 := Nat.pow_lt_pow_right (by decide) h
  show nI 1 <<< (nI w &&& 31) = nI (2 ^ w)
  rw [pk_shlN (n := 1) (nI w &&& 31) w (sml w h) (by omega), Nat.one_mul]
theorem nx_shr {k w : Nat} (hk : k < 2 ^ 31) (h : w < 32) : nI k >>> (nI w &&& 31) = nI (k / 2 ^ w) := pk_shrN hk (nI w &&& 31) w (sml w h)
/-- a set of those below n for which p holds -/
def ofB (p : Nat → Bool) : Nat → Nat
  | 0 => 0
  | n + 1 => ofB p n ||| (if p n then 2 ^ n else 0)
theorem ofB_bit (p : Nat → Bool) (n i : Nat) : (ofB p n).testBit i = (decide (i < n) && p i) := by
  induction n with
  | zero => simp [ofB]
  | succ n ih =>
    rw [ofB, Nat.testBit_or, ih]
    by_cases hp : p n = true
    · rw [if_pos hp, Nat.testBit_two_pow]
      by_cases h1 : n = i
      · subst h1; simp [hp]
      · have h2 : decide (n = i) = false := decide_eq_false h1
        rw [h2, Bool.or_false]
        have h3 : decide (i < n + 1) = decide (i < n) := by
          by_cases h4 : i < n
          · rw [decide_eq_true h4, decide_eq_true (by omega)]
          · rw [decide_eq_false h4, decide_eq_false (by omega)]
        rw [h3]
    · rw [if_neg hp, Nat.zero_testBit, Bool.or_false]
      by_cases h1 : n = i
      · subst h1; simp [hp]
      · have h3 : decide (i < n + 1) = decide (i < n) := by
          by_cases h4 : i < n
          · rw [decide_eq_true h4, decide_eq_true (by omega)]
          · rw [decide_eq_false h4, decide_eq_false (by omega)]
        rw [h3]
theorem ofB_lt (p : Nat → Bool) (n : Nat) : ofB p n < 2 ^ n := by
  apply Nat.lt_pow_two_of_testBit
  intro i hi
  rw [ofB_bit, decide_eq_false (by omega)]
  rfl
theorem bit_ext {a b n : Nat} (ha : a < 2 ^ n) (hb : b < 2 ^ n) (h : ∀ i, i < n → a.testBit i = b.testBit i) : a = b := by
  apply Nat.eq_of_testBit_eq
  intro i
  by_cases hi : i < n
  · exact h i hi
  · rw [Nat.testBit_lt_two_pow (Nat.lt_of_lt_of_le ha (Nat.pow_le_pow_right (by decide) (by omega))), Nat.testBit_lt_two_pow (Nat.lt_of_lt_of_le hb (Nat.pow_le_pow_right (by decide) (by omega)))]
theorem ofB_of {s n : Nat} (h : s < 2 ^ n) : ofB s.testBit n = s := by
  apply bit_ext (ofB_lt _ _) h
  intro i hi
  rw [ofB_bit, decide_eq_true hi, Bool.true_and]
theorem ofB_congr {p q : Nat → Bool} {n : Nat} (h : ∀ i, i < n → p i = q i) : ofB p n = ofB q n := by
  apply bit_ext (ofB_lt _ _) (ofB_lt _ _)
  intro i hi
  rw [ofB_bit, ofB_bit, h i hi]
theorem ofB_and (p q : Nat → Bool) (n : Nat) : ofB p n &&& ofB q n = ofB (fun i => p i && q i) n := by
  apply bit_ext (Nat.and_lt_two_pow _ (ofB_lt _ _)) (ofB_lt _ _)
  intro i hi
  rw [Nat.testBit_and, ofB_bit, ofB_bit, ofB_bit]
  simp [hi]
theorem ofB_or (p q : Nat → Bool) (n : Nat) : ofB p n ||| ofB q n = ofB (fun i => p i || q i) n := by
  apply bit_ext (Nat.or_lt_two_pow (ofB_lt _ _) (ofB_lt _ _)) (ofB_lt _ _)
  intro i hi
  rw [Nat.testBit_or, ofB_bit, ofB_bit, ofB_bit]
  simp [hi]
theorem all_bit (n i : Nat) : (2 ^ n - 1).testBit i = decide (i < n) := Nat.testBit_two_pow_sub_one n i
/-- all but those of a set, as the programs reckon it -/
def cm (a s : Nat) : Nat := a &&& (s ^^^ 4294967295)
theorem cm_bit {a s i : Nat} (hi : i < 32) : (cm a s).testBit i = (a.testBit i && !s.testBit i) := by
  have h : (4294967295 : Nat).testBit i = true := by
    have := all_bit 32 i
    rw [decide_eq_true hi] at this
    exact this
  rw [cm, Nat.testBit_and, Nat.testBit_xor, h]
  cases s.testBit i <;> rfl
theorem cm_lt {a s n : Nat} (h : a < 2 ^ n) : cm a s < 2 ^ n := Nat.lt_of_le_of_lt Nat.and_le_left h
theorem cm_I (a s : Nat) : nI a &&& (nI s ^^^ (-1)) = nI (cm a s) := by
  rw [em1, nx_xor, nx_and, cm]
theorem cm_eq0 {a s n : Nat} (hn : n ≤ 32) (h : a < 2 ^ n) : cm a s = 0 ↔ ∀ i, i < n → a.testBit i = true → s.testBit i = true := by
  constructor
  · intro e i hi ha
    have := cm_bit (a := a) (s := s) (i := i) (by omega)
    rw [e, Nat.zero_testBit, ha, Bool.true_and] at this
    cases hs : s.testBit i with
    | true => rfl
    | false => rw [hs] at this; cases this
  · intro k
    apply bit_ext (cm_lt h) (Nat.two_pow_pos n)
    intro i hi
    rw [cm_bit (by omega), Nat.zero_testBit]
    cases ha : a.testBit i with
    | false => rfl
    | true => rw [k i hi ha]; rfl
/-- a row read where it has a place, and where not -/
theorem at_in {n j : Nat} (f : Nat → Int32) (h : j < n) (hn : n < 2 ^ 31) : P_X4_at n (nI j) f = some (f j) := by
  unfold P_X4_at
  rw [if_neg (nI_pos (by omega)), if_neg (nI_ge h hn), ck, if_pos (by rw [nI_toInt (by omega)]; omega), nI_clamp (by omega)]
theorem at_out {n : Nat} {i : Int32} (f : Nat → Int32) (h : i < 0 ∨ nI n ≤ i) : P_X4_at n i f = some 0 := by
  unfold P_X4_at
  by_cases h0 : i < 0
  · rw [if_pos h0]
  · rw [if_neg h0, if_pos (h.resolve_left h0)]
theorem put_in {n j : Nat} (f : Nat → Int32) (x : Int32) (h : j < n) (hn : n < 2 ^ 31) : P_X4_put n (nI j) x f = some (upd f j x) := by
  unfold P_X4_put
  rw [if_neg (nI_pos (by omega)), if_neg (nI_ge h hn), ck, if_pos (by rw [nI_toInt (by omega)]; omega), nI_clamp (by omega)]
theorem ck_in {α : Type} {j n : Nat} (a : Option α) (h : j < n) (hn : n < 2 ^ 31) : ck (nI j) n a = a := by
  rw [ck, if_pos (by rw [nI_toInt (by omega)]; omega)]
theorem fuel {k : Nat} (h : k < 1000000) : ∃ q, QF = q + 1 + k := ⟨1000000 - 1 - k, by unfold QF; omega⟩
