/-! type: bytes of a long -/
def vB (x : Int64) (l : Nat) : Nat := x.toBitVec.toNat / 2 ^ (8 * l) % 256
theorem sh_c : ∀ l, l < 8 → ((8 * nI l).toInt64.toUInt64 &&& Int64.toUInt64 63).toNat = 8 * l := by decide +kernel
theorem sh_m : ∀ l, l < 8 → (((8 * nI l).toInt64 &&& 63).toBitVec.smod 64).toNat = 8 * l := by decide +kernel
theorem byte_c (x : Int64) {l : Nat} (hl : l < 8) : ((x.toUInt64 >>> ((8 * nI l).toInt64.toUInt64 &&& Int64.toUInt64 63)).toInt64).toInt32 &&& 255 = nI (vB x l) := by
  rw [pk_and _ 8 (show (255 : Int32).toBitVec.toNat = 2 ^ 8 - 1 by decide)]
  have h1 : ((x.toUInt64 >>> ((8 * nI l).toInt64.toUInt64 &&& Int64.toUInt64 63)).toInt64).toInt32.toBitVec.toNat = (x.toUInt64 >>> ((8 * nI l).toInt64.toUInt64 &&& Int64.toUInt64 63)).toNat % 2 ^ 32 := by
    rw [Int64.toBitVec_toInt32, BitVec.signExtend_eq_setWidth_of_le _ (by decide), BitVec.toNat_setWidth]
    rfl
  have h2 : (x.toUInt64 >>> ((8 * nI l).toInt64.toUInt64 &&& Int64.toUInt64 63)).toNat = x.toBitVec.toNat / 2 ^ (8 * l) := by
    rw [UInt64.toNat_shiftRight, sh_c l hl, Nat.mod_eq_of_lt (by omega), Nat.shiftRight_eq_div_pow]
    rfl
  rw [h1, h2, vB, Nat.mod_mod_of_dvd _ (show 2 ^ 8 ∣ 2 ^ 32 by decide)]
theorem sx8 : ∀ n, n < 256 → ((BitVec.ofNat 8 n).signExtend 32).toNat % 256 = n := by decide +kernel
theorem byte_m (x : Int64) {l : Nat} (hl : l < 8) : (vp_nar .byte ((((x >>> ((8 * nI l).toInt64 &&& 63)) &&& 255).toInt32).toInt8.toInt32)) &&& 255 = nI (vB x l) := by
  rw [pk_vb, pk_and _ 8 (show (255 : Int32).toBitVec.toNat = 2 ^ 8 - 1 by decide)]
  congr 1
  have h1 : ∀ z : Int32, z.toInt8.toInt32.toBitVec.toNat % 2 ^ 8 = z.toBitVec.toNat % 256 := by
    intro z
    rw [Int8.toBitVec_toInt32, Int32.toBitVec_toInt8, BitVec.signExtend_eq_setWidth_of_le (v := 8) _ (by decide)]
    have := sx8 (z.toBitVec.toNat % 256) (Nat.mod_lt _ (by decide))
    have e : BitVec.ofNat 8 (z.toBitVec.toNat % 256) = z.toBitVec.setWidth 8 := by
      apply BitVec.eq_of_toNat_eq
      rw [BitVec.toNat_ofNat, BitVec.toNat_setWidth]
      omega
    rw [e] at this
    exact this
  rw [h1, Int64.toBitVec_toInt32, BitVec.signExtend_eq_setWidth_of_le _ (by decide), BitVec.toNat_setWidth, Nat.mod_mod_of_dvd _ (show 256 ∣ 2 ^ 32 by decide), Int64.toBitVec_and, Int64.toBitVec_shiftRight, BitVec.toNat_and, vB]
  have e255 : (255 : Int64).toBitVec.toNat = 255 := by decide
  rw [e255]
  apply Nat.eq_of_testBit_eq
  intro i
  rw [show (256 : Nat) = 2 ^ 8 from rfl, show (255 : Nat) = 2 ^ 8 - 1 from rfl, Nat.testBit_mod_two_pow, Nat.testBit_mod_two_pow, Nat.testBit_and, Nat.testBit_two_pow_sub_one, Nat.testBit_div_two_pow]
  by_cases hi : i < 8
  · rw [decide_eq_true hi, Bool.true_and, Bool.and_true, Bool.true_and]
    rw [BitVec.sshiftRight', sh_m l hl]
    have : (x.toBitVec.sshiftRight (8 * l)).toNat.testBit i = (x.toBitVec.sshiftRight (8 * l)).getLsbD i := rfl
    rw [this, BitVec.getLsbD_sshiftRight, decide_eq_false (show ¬ 64 ≤ i by omega), if_pos (show 8 * l + i < 64 by omega), Bool.not_false, Bool.true_and, Nat.add_comm]
    rfl
  · rw [decide_eq_false hi, Bool.false_and, Bool.false_and]
theorem TX_add {n v : Nat} {b : Nat → Nat} {fB fm : AR} {y : Int32} (h : TX n b fB fm) (hn : n < 200) (hv : v < 256) (hy : y &&& 255 = nI v) : TX (n + 1) (un b n v) (upd fB n (nI v)) (upd fm n y) := by
  refine ⟨by omega, fun i hi => ?_⟩
  by_cases e : i = n
  · rw [e, un_s, pk_us, pk_us]; exact ⟨hv, rfl, hy⟩
  · rw [un_n _ _ e, pk_un e, pk_un e]; exact h.2 i (by omega)
theorem dec_eq (q : Nat) : nI q + (-1) = nI q - 1 := (Int32.sub_eq_add_neg _ _).symm
theorem type_loop {x : Int64} {K : Int32 → AR → Option (Int32 × Int32 × AR)} : ∀ (m i e f : Nat) (b : Nat → Nat) (fB fm : AR), m ≤ 8 → i + m ≤ 200 → m < e → m < f → TX i b fB fm → ∃ b' fB' fm', P_X6_add_19 x e (nI m - 1) (nI i) fB = some (1, nI (i + m), fB') ∧ P_X11_type_32 x K f (nI m - 1) (nI i) fm = K (nI (i + m)) fm' ∧ TX (i + m) b' fB' fm' := by
  intro m
  induction m with
  | zero =>
    intro i e f b fB fm h8 h200 he hf hT
    obtain ⟨e, rfl⟩ : ∃ q, e = q + 1 := ⟨e - 1, by omega⟩
    obtain ⟨f, rfl⟩ : ∃ q, f = q + 1 := ⟨f - 1, by omega⟩
    rw [P_X6_add_19, P_X11_type_32, if_pos (show nI 0 - 1 < 0 by decide), if_pos (show nI 0 - 1 < 0 by decide)]
    exact ⟨b, fB, fm, rfl, rfl, hT⟩
  | succ m ih =>
    intro i e f b fB fm h8 h200 he hf hT
    obtain ⟨e, rfl⟩ : ∃ q, e = q + 1 := ⟨e - 1, by omega⟩
    obtain ⟨f, rfl⟩ : ∃ q, f = q + 1 := ⟨f - 1, by omega⟩
    have hv : vB x m < 256 := Nat.mod_lt _ (by decide)
    rw [P_X6_add_19, P_X11_type_32, nI_pred, if_neg (nI_pos (by omega)), if_neg (nI_pos (by omega)), byte_c x (show m < 8 by omega), put_in _ _ (show i < 200 by omega) (by decide), Option.bind_some, ck_in _ (show i < 200 by omega) (by decide), nI_clamp (show i < 2 ^ 31 by omega), dec_eq, nI_1]
    obtain ⟨b', fB', fm', x1, x2, x3⟩ := ih (i + 1) e f _ _ _ (by omega) (by omega) (by omega) (by omega) (TX_add hT (by omega) hv (byte_m x (show m < 8 by omega)))
    rw [show i + 1 + m = i + (m + 1) by omega] at x1 x2 x3
    exact ⟨b', fB', fm', x1, x2, x3⟩
theorem type_R {me : Int32} {tr : Int64} {sz : Int32} {tB : AR} {ch wo : Int32} {sv sf : AR} {s0 w0 g0 : Int32} {L0 S0 W0 : AR} {s1 w1 g1 : Int32} {L1 S1 W1 : AR} {s2 w2 g2 : Int32} {L2 S2 W2 : AR} {ll : AR} {sg sm kn : Int32} {mtr : Int64} {mt mch mwo : Int32} {mx mv ms mL mS mws mw mk : AR} (h : RR me tr sz tB ch wo sv sf s0 w0 g0 L0 S0 W0 s1 w1 g1 L1 S1 W1 s2 w2 g2 L2 S2 W2 ll sg sm kn mtr mt mch mwo mx mv ms mL mS mws mw mk) (x : Int64) (p : Int32) : ∃ r sz' tB' mt' mx', P_X10_type x p sz tB = some (r, sz', tB') ∧ P_X11_type x p mt mx = some (r, mt', mx') ∧ RR me tr sz' tB' ch wo sv sf s0 w0 g0 L0 S0 W0 s1 w1 g1 L1 S1 W1 s2 w2 g2 L2 S2 W2 ll sg sm kn mtr mt' mch mwo mx' mv ms mL mS mws mw mk := by
  have hR := h
  obtain ⟨n, bb, k, vs, W, ns, sl, sn, nw, wl, rfl, rfl, hT, rfl, rfl, rfl, rfl, hC, hM, hK, hI1, hI2, htr, hme, hkn⟩ := h
  obtain ⟨hw1, hw2⟩ := KE_WD hK
  have hK' := hK
  obtain ⟨rfl, rfl, a3, a4, a5, a6, a7, a8⟩ := hK'
  have h9 := hC.1.le
  have hS : SPW k vs W nw wl sv sf W0 mv mws mw := ⟨hC, hM, a6, hw1, hw2⟩
  have hf : ∀ j, j < ns → L0 j = nI (sl j) := fun j hj => (a7 j hj).1
  have hg : ∀ j, j < ns → mL j = nI (sl j) := fun j hj => by have := (a7 j hj).2.2.2.1; rwa [show 8 * 0 + j = j by omega] at this
  have hg2 : ∀ j, j < ns → mS j = sn j := fun j hj => by have := (a7 j hj).2.2.2.2; rwa [show 8 * 0 + j = j by omega] at this
  have h200 := hT.1
  unfold P_X10_type P_X11_type
  by_cases hp : p < 1 ∨ 8 < p
  · rw [in_out (c := 8) (a := 1) hp, Option.bind_some, if_pos rfl]
    by_cases z : p < 1
    · rw [if_pos z]
      exact ⟨_, _, _, _, _, rfl, rfl, hR⟩
    · rw [if_neg z, if_neg (Int32.not_le.mpr (hp.resolve_left z))]
      exact ⟨_, _, _, _, _, rfl, rfl, hR⟩
  · have p0 : ¬ p < 0 := fun z => hp (Or.inl (by
      rw [Int32.lt_iff_toInt_lt] at z ⊢
      have e0 : (0 : Int32).toInt = 0 := by decide
      have e1 : (1 : Int32).toInt = 1 := by decide
      omega))
    obtain ⟨m, hm, rfl⟩ := nI_of p0
    have m1 : 1 ≤ m := by
      rcases Nat.lt_or_ge m 1 with y | y
      · exact absurd (Or.inl (nI_lt (b := 1) y (by decide))) hp
      · exact y
    have m8 : m ≤ 8 := by
      rcases Nat.lt_or_ge 8 m with y | y
      · exact absurd (Or.inr (nI_lt (a := 8) y hm)) hp
      · exact y
    have i1 : P_X11_in (nI m) 1 8 = some 1 := in_in (a := 1) (c := 8) m1 m8 (by decide)
    rw [i1, Option.bind_some, if_neg one_ne, if_neg (show ¬ nI m < 1 from nI_nlt (b := 1) m1 hm), if_pos (show nI m ≤ 8 from nI_le (b := 8) m8 (by decide))]
    unfold P_X6_add P_X6_size
    rw [nI_add]
    by_cases fit : n + m ≤ 200
    · obtain ⟨b', fB', fm', x1, x2, x3⟩ := type_loop (x := x) (K := fun a b => some (a, a, b)) m n QF QF bb tB mx m8 fit (by unfold QF; omega) (by unfold QF; omega) hT
      rw [if_pos (show nI (n + m) ≤ 200 from nI_le (b := 200) fit (by decide)), if_pos (show nI (n + m) ≤ 200 from nI_le (b := 200) fit (by decide)), x1, Option.bind_some, if_neg one_ne, Option.bind_some, jn, x2]
      exact ⟨_, _, _, _, _, rfl, rfl, ⟨n + m, b', k, vs, W, ns, sl, sn, nw, wl, rfl, rfl, x3, rfl, rfl, rfl, rfl, hC, hM, hK, hI1, hI2, htr, hme, hkn⟩⟩
    · rw [if_neg (show ¬ nI (n + m) ≤ 200 from nI_ge (a := 200) (by omega) (by omega)), if_neg (show ¬ nI (n + m) ≤ 200 from nI_ge (a := 200) (by omega) (by omega)), Option.bind_some, if_pos rfl]
      exact ⟨_, _, _, _, _, rfl, rfl, hR⟩
