theorem zx_and (a b : Nat) : nI a &&& nI b = nI (a &&& b) := by
  apply Int32.toBitVec_inj.1
  show BitVec.ofNat 32 a &&& BitVec.ofNat 32 b = BitVec.ofNat 32 (a &&& b)
  apply BitVec.eq_of_getLsbD_eq
  intro i hi
  simp [hi]
theorem zx_or (a b : Nat) : nI a ||| nI b = nI (a ||| b) := by
  apply Int32.toBitVec_inj.1
  show BitVec.ofNat 32 a ||| BitVec.ofNat 32 b = BitVec.ofNat 32 (a ||| b)
  apply BitVec.eq_of_getLsbD_eq
  intro i hi
  simp [hi]
def zpN (s : Nat) : Nat :=
  ((((((s - (s / 2 &&& 1431655765)) &&& 858993459) + ((s - (s / 2 &&& 1431655765)) / 4 &&& 858993459)) + (((s - (s / 2 &&& 1431655765)) &&& 858993459) + ((s - (s / 2 &&& 1431655765)) / 4 &&& 858993459)) / 16) &&& 252645135) + (((((s - (s / 2 &&& 1431655765)) &&& 858993459) + ((s - (s / 2 &&& 1431655765)) / 4 &&& 858993459)) + (((s - (s / 2 &&& 1431655765)) &&& 858993459) + ((s - (s / 2 &&& 1431655765)) / 4 &&& 858993459)) / 16) &&& 252645135) / 256 + ((((((s - (s / 2 &&& 1431655765)) &&& 858993459) + ((s - (s / 2 &&& 1431655765)) / 4 &&& 858993459)) + (((s - (s / 2 &&& 1431655765)) &&& 858993459) + ((s - (s / 2 &&& 1431655765)) / 4 &&& 858993459)) / 16) &&& 252645135) + (((((s - (s / 2 &&& 1431655765)) &&& 858993459) + ((s - (s / 2 &&& 1431655765)) / 4 &&& 858993459)) + (((s - (s / 2 &&& 1431655765)) &&& 858993459) + ((s - (s / 2 &&& 1431655765)) / 4 &&& 858993459)) / 16) &&& 252645135) / 256) / 65536) &&& 63
def zpc : Nat → Nat → Nat
  | 0, _ => 0
  | k + 1, s => s % 2 + zpc k (s / 2)
theorem zpc_add : ∀ (j k s : Nat), zpc (j + k) s = zpc j s + zpc k (s / 2 ^ j)
  | 0, k, s => by rw [Nat.zero_add, Nat.pow_zero, Nat.div_one]; show zpc k s = 0 + zpc k s; omega
  | j + 1, k, s => by
    rw [show j + 1 + k = (j + k) + 1 by omega]
    show s % 2 + zpc (j + k) (s / 2) = s % 2 + zpc j (s / 2) + zpc k (s / 2 ^ (j + 1))
    rw [zpc_add j k (s / 2), Nat.div_div_eq_div_mul, Nat.pow_succ, Nat.mul_comm 2]
    omega
theorem zpc_mod : ∀ (j s : Nat), zpc j s = zpc j (s % 2 ^ j)
  | 0, s => rfl
  | j + 1, s => by
    show s % 2 + zpc j (s / 2) = s % 2 ^ (j + 1) % 2 + zpc j (s % 2 ^ (j + 1) / 2)
    rw [zpc_mod j (s / 2), zpc_mod j (s % 2 ^ (j + 1) / 2)]
    have h1 : s % 2 ^ (j + 1) % 2 = s % 2 := by
      rw [Nat.pow_succ, Nat.mod_mul_left_mod]
    have h2 : s % 2 ^ (j + 1) / 2 = s / 2 % 2 ^ j := by
      rw [Nat.pow_succ, Nat.mul_comm, Nat.mod_mul_right_div_self]
    rw [h1, h2, Nat.mod_mod]
/-- byte by byte -/
theorem zand (x m1 m2 : Nat) (h : m1 < 256) : x &&& (m1 + 256 * m2) = (x % 256 &&& m1) + 256 * (x / 256 &&& m2) := by
  have e1 : (x &&& (m1 + 256 * m2)) % 2 ^ 8 = (x % 256 &&& m1) := by
    rw [Nat.and_mod_two_pow]
    congr 1
    omega
  have e2 : (x &&& (m1 + 256 * m2)) / 2 ^ 8 = (x / 256 &&& m2) := by
    rw [Nat.and_div_two_pow]
    congr 1
    omega
  omega
theorem zb1 : ∀ a : Fin 256, ∀ c : Fin 2, ((a.val / 2 + 128 * c.val) &&& 85) = (a.val / 2 &&& 85) ∧ (a.val / 2 &&& 85) ≤ a.val := by decide +kernel
theorem zb2 : ∀ a : Fin 256, ∀ c : Fin 4, ((a.val / 4 + 64 * c.val) &&& 51) = (a.val / 4 &&& 51) := by decide +kernel
def zc1 (a : Nat) : Nat := a - (a / 2 &&& 85)
def zc2 (a : Nat) : Nat := (zc1 a &&& 51) + (zc1 a / 4 &&& 51)
theorem zb3 : ∀ a : Fin 256, zc1 a.val < 256 ∧ (zc2 a.val ≤ 68 ∧ zc2 a.val % 16 ≤ 4) ∧ ((zc2 a.val + zc2 a.val / 16) &&& 15) = zpc 8 a.val ∧ zpc 8 a.val ≤ 8 := by decide +kernel
theorem zb4 : ∀ x : Fin 137, ((x.val) &&& 15) = x.val % 16 := by decide +kernel
theorem zb5 : ∀ a b : Fin 9, (a.val + 256 * b.val + b.val) &&& 63 = a.val + b.val := by decide +kernel
theorem zpN_pc {s : Nat} (h : s < 65536) : zpN s = zpc 16 s := by
  obtain ⟨a, ha⟩ : ∃ a, a = s % 256 := ⟨_, rfl⟩
  obtain ⟨b, hb⟩ : ∃ b, b = s / 256 := ⟨_, rfl⟩
  have ha2 : a < 256 := by omega
  have hb2 : b < 256 := by omega
  obtain ⟨p1, p2, p3, p4⟩ := zb3 ⟨a, ha2⟩
  obtain ⟨r1, r2, r3, r4⟩ := zb3 ⟨b, hb2⟩
  have p1 : zc1 a < 256 := p1
  have r1 : zc1 b < 256 := r1
  have p2' : zc2 a % 16 ≤ 4 := p2.2
  have r2' : zc2 b % 16 ≤ 4 := r2.2
  have p2 : zc2 a ≤ 68 := p2.1
  have r2 : zc2 b ≤ 68 := r2.1
  have p3 : ((zc2 a + zc2 a / 16) &&& 15) = zpc 8 a := p3
  have r3 : ((zc2 b + zc2 b / 16) &&& 15) = zpc 8 b := r3
  have p4 : zpc 8 a ≤ 8 := p4
  have r4 : zpc 8 b ≤ 8 := r4
  have q1 := zb1 ⟨a, ha2⟩ ⟨b % 2, by omega⟩
  have q1a : ((a / 2 + 128 * (b % 2)) &&& 85) = (a / 2 &&& 85) := q1.1
  have q1b : (a / 2 &&& 85) ≤ a := q1.2
  have q1c : (b / 2 &&& 85) ≤ b := (zb1 ⟨b, hb2⟩ ⟨0, by omega⟩).2
  -- the first sum
  have e1 : (s / 2 &&& 1431655765) = (a / 2 &&& 85) + 256 * (b / 2 &&& 85) := by
    rw [show (1431655765 : Nat) = 85 + 256 * 5592405 from rfl, zand _ _ _ (by decide), show s / 2 % 256 = a / 2 + 128 * (b % 2) by omega, q1a, show s / 2 / 256 = b / 2 by omega,
      show (5592405 : Nat) = 85 + 256 * 21845 from rfl, zand _ _ _ (by decide), show b / 2 % 256 = b / 2 by omega, show b / 2 / 256 = 0 by omega, Nat.zero_and, Nat.mul_zero, Nat.add_zero]
  have e2 : s - (s / 2 &&& 1431655765) = zc1 a + 256 * zc1 b := by
    rw [e1]
    unfold zc1
    omega
  -- the second
  have q2a : ((zc1 a / 4 + 64 * (zc1 b % 4)) &&& 51) = (zc1 a / 4 &&& 51) := zb2 ⟨zc1 a, p1⟩ ⟨zc1 b % 4, by omega⟩
  have e3 : ((s - (s / 2 &&& 1431655765)) &&& 858993459) + ((s - (s / 2 &&& 1431655765)) / 4 &&& 858993459) = zc2 a + 256 * zc2 b := by
    rw [e2]
    have f1 : ((zc1 a + 256 * zc1 b) &&& 858993459) = (zc1 a &&& 51) + 256 * (zc1 b &&& 51) := by
      rw [show (858993459 : Nat) = 51 + 256 * 3355443 from rfl, zand _ _ _ (by decide), show (zc1 a + 256 * zc1 b) % 256 = zc1 a by omega, show (zc1 a + 256 * zc1 b) / 256 = zc1 b by omega,
        show (3355443 : Nat) = 51 + 256 * 13107 from rfl, zand _ _ _ (by decide), show zc1 b % 256 = zc1 b by omega, show zc1 b / 256 = 0 by omega, Nat.zero_and, Nat.mul_zero, Nat.add_zero]
    have f2 : ((zc1 a + 256 * zc1 b) / 4 &&& 858993459) = (zc1 a / 4 &&& 51) + 256 * (zc1 b / 4 &&& 51) := by
      rw [show (858993459 : Nat) = 51 + 256 * 3355443 from rfl, zand _ _ _ (by decide), show (zc1 a + 256 * zc1 b) / 4 % 256 = zc1 a / 4 + 64 * (zc1 b % 4) by omega, q2a, show (zc1 a + 256 * zc1 b) / 4 / 256 = zc1 b / 4 by omega,
        show (3355443 : Nat) = 51 + 256 * 13107 from rfl, zand _ _ _ (by decide), show zc1 b / 4 % 256 = zc1 b / 4 by omega, show zc1 b / 4 / 256 = 0 by omega, Nat.zero_and, Nat.mul_zero, Nat.add_zero]
    rw [f1, f2]
    unfold zc2
    omega
  -- the third
  have e4 : (((((s - (s / 2 &&& 1431655765)) &&& 858993459) + ((s - (s / 2 &&& 1431655765)) / 4 &&& 858993459)) + (((s - (s / 2 &&& 1431655765)) &&& 858993459) + ((s - (s / 2 &&& 1431655765)) / 4 &&& 858993459)) / 16) &&& 252645135) = zpc 8 a + 256 * zpc 8 b := by
    rw [e3, show (252645135 : Nat) = 15 + 256 * 986895 from rfl, zand _ _ _ (by decide), show (986895 : Nat) = 15 + 256 * 3855 from rfl, zand _ _ _ (by decide)]
    have g1 : (zc2 a + 256 * zc2 b + (zc2 a + 256 * zc2 b) / 16) % 256 = zc2 a + zc2 a / 16 + 16 * (zc2 b % 16) := by omega
    have g2 : (zc2 a + 256 * zc2 b + (zc2 a + 256 * zc2 b) / 16) / 256 = zc2 b + zc2 b / 16 := by omega
    rw [g1, g2, show (zc2 b + zc2 b / 16) % 256 = zc2 b + zc2 b / 16 by omega, show (zc2 b + zc2 b / 16) / 256 = 0 by omega, Nat.zero_and, Nat.mul_zero, Nat.add_zero, r3]
    have g3 : (zc2 a + zc2 a / 16 + 16 * (zc2 b % 16)) &&& 15 = (zc2 a + zc2 a / 16) &&& 15 := by
      rw [show (15 : Nat) = 2 ^ 4 - 1 from rfl, Nat.and_two_pow_sub_one_eq_mod, Nat.and_two_pow_sub_one_eq_mod]
      omega
    rw [g3, p3]
  unfold zpN
  rw [e4, show (zpc 8 a + 256 * zpc 8 b) / 256 = zpc 8 b by omega, show (zpc 8 a + 256 * zpc 8 b + zpc 8 b) / 65536 = 0 by omega, Nat.add_zero]
  have e5 : (zpc 8 a + 256 * zpc 8 b + zpc 8 b) &&& 63 = zpc 8 a + zpc 8 b := zb5 ⟨zpc 8 a, by omega⟩ ⟨zpc 8 b, by omega⟩
  rw [e5, show (16 : Nat) = 8 + 8 from rfl, zpc_add, zpc_mod 8 s, show s % 2 ^ 8 = a by omega, show s / 2 ^ 8 = b by omega]
theorem zu1 {n : Nat} (hn : n < 2 ^ 32) : (Int32.toUInt32 (nI n) >>> (Int32.toUInt32 1 &&& Int32.toUInt32 31)).toInt32 = nI (n / 2) := pk_ushrN hn 1 1 (by decide)
theorem zu2 {n : Nat} (hn : n < 2 ^ 32) : (Int32.toUInt32 (nI n) >>> (Int32.toUInt32 2 &&& Int32.toUInt32 31)).toInt32 = nI (n / 4) := pk_ushrN hn 2 2 (by decide)
theorem zu4 {n : Nat} (hn : n < 2 ^ 32) : (Int32.toUInt32 (nI n) >>> (Int32.toUInt32 4 &&& Int32.toUInt32 31)).toInt32 = nI (n / 16) := pk_ushrN hn 4 4 (by decide)
theorem zu8 {n : Nat} (hn : n < 2 ^ 32) : (Int32.toUInt32 (nI n) >>> (Int32.toUInt32 8 &&& Int32.toUInt32 31)).toInt32 = nI (n / 256) := pk_ushrN hn 8 8 (by decide)
theorem zu16 {n : Nat} (hn : n < 2 ^ 32) : (Int32.toUInt32 (nI n) >>> (Int32.toUInt32 16 &&& Int32.toUInt32 31)).toInt32 = nI (n / 65536) := pk_ushrN hn 16 16 (by decide)
theorem j_bitCount {s : Nat} (h : s < 65536) : f_J6_bitCount_0f7a4 (nI s) = some (nI (zpN s)) := by
  unfold f_J6_bitCount_0f7a4 zpN
  have a1 : (s / 2 &&& 1431655765) ≤ s := Nat.le_trans Nat.and_le_left (Nat.div_le_self s 2)
  generalize hb1 : s - (s / 2 &&& 1431655765) = b1
  have c1 : b1 < 65536 := by omega
  rw [zu1 (by omega), show (1431655765 : Int32) = nI 1431655765 from rfl, zx_and, pk_sub a1, hb1]
  have a2 : (b1 &&& 858993459) ≤ b1 := Nat.and_le_left
  have a3 : (b1 / 4 &&& 858993459) ≤ b1 / 4 := Nat.and_le_left
  rw [zu2 (by omega), show (858993459 : Int32) = nI 858993459 from rfl, zx_and, zx_and, nI_add]
  generalize hb2 : (b1 &&& 858993459) + (b1 / 4 &&& 858993459) = b2
  have c2 : b2 < 131072 := by omega
  have a4 : ((b2 + b2 / 16) &&& 252645135) ≤ b2 + b2 / 16 := Nat.and_le_left
  rw [zu4 (by omega), nI_add, show (252645135 : Int32) = nI 252645135 from rfl, zx_and]
  generalize hb3 : (b2 + b2 / 16) &&& 252645135 = b3
  have c3 : b3 < 262144 := by omega
  rw [zu8 (by omega), nI_add, zu16 (by omega), nI_add, show (63 : Int32) = nI 63 from rfl, zx_and]
theorem m_bitsL : ∀ (k q a s : Nat), s < 2 ^ k → k ≤ 30 → k < q → f_X4_bits_L4 q (nI a) (nI s) = some (nI (a + zpc k s))
  | 0, q, a, s, hs, hk, hq => by
    obtain ⟨q, rfl⟩ : ∃ z, q = z + 1 := ⟨q - 1, by omega⟩
    have : s = 0 := by omega
    subst this
    rw [f_X4_bits_L4, if_pos (by decide)]
    rfl
  | k + 1, q, a, s, hs, hk, hq => by
    obtain ⟨q, rfl⟩ : ∃ z, q = z + 1 := ⟨q - 1, by omega⟩
    have hp : 2 ^ (k + 1) ≤ 2 ^ 30 := Nat.pow_le_pow_right (by decide) hk
    have hs2 : s / 2 < 2 ^ k := by
      rw [Nat.pow_succ] at hs
      omega
    by_cases c : s = 0
    · subst c
      rw [f_X4_bits_L4, if_pos (by decide)]
      have z0 : ∀ k, zpc k 0 = 0 := by
        intro k
        induction k with
        | zero => rfl
        | succ k ih => show 0 % 2 + zpc k (0 / 2) = 0; rw [show 0 / 2 = 0 from rfl, ih]
      rw [z0]
      rfl
    · rw [f_X4_bits_L4, if_neg (nI_nle (by omega) (by omega)), show (1 : Int32) &&& 31 = 1 by decide, pk_shrN (by omega) 1 1 (by decide), show (1 : Int32) = nI (2 ^ 1 - 1) from rfl, pk_andN (by omega) 1 (by decide), nI_add, m_bitsL k q _ (s / 2 ^ 1) (by rw [Nat.pow_one]; exact hs2) (by omega) (by omega)]
      congr 2
      show a + s % 2 ^ 1 + zpc k (s / 2 ^ 1) = a + (s % 2 + zpc k (s / 2))
      rw [Nat.pow_one]
      omega
theorem m_bits {s : Nat} (h : s < 65536) : f_X4_bits (nI s) = some (nI (zpc 16 s)) := by
  unfold f_X4_bits
  rw [show f_X4_bits_L4 100 0 (nI s) = f_X4_bits_L4 100 (nI 0) (nI s) from rfl, m_bitsL 16 100 0 s h (by decide) (by decide), q_b1, Nat.zero_add]
theorem zst_n {b t s : Nat} (ht : t < 16) (hb : b ≤ 1) : zst b t (nI s) = nI (s ||| (b * 2 ^ t)) := by
  have q : ∀ t : Fin 16, (1 : Int32) <<< (nI t.val &&& 31) = nI (2 ^ t.val) := by decide
  unfold zst
  rcases (show b = 0 ∨ b = 1 by omega) with rfl | rfl
  · rw [if_neg (by decide), Nat.zero_mul, Nat.or_zero]
  · rw [if_pos rfl, q ⟨t, ht⟩, zx_or, Nat.one_mul]
/-- a set of lamps is a number below 65536 -/
theorem zi_set {f : Nat → Nat} (hf : ∀ j, f j ≤ 1) : ∀ d i s, i + d ≤ 16 → s < 65536 → ∃ s', s' < 65536 ∧ zi (fun l a => zst (f l) l a) i d (nI s) = nI s'
  | 0, i, s, _, hs => ⟨s, hs, rfl⟩
  | d + 1, i, s, hi, hs => by
    show ∃ s', s' < 65536 ∧ zi (fun l a => zst (f l) l a) (i + 1) d (zst (f i) i (nI s)) = nI s'
    rw [zst_n (by omega) (hf i)]
    refine zi_set hf d (i + 1) _ (by omega) ?_
    have h1 : f i * 2 ^ i < 2 ^ 16 := by
      have h2 : 2 ^ i ≤ 2 ^ 15 := Nat.pow_le_pow_right (by decide) (by omega)
      have h3 := Nat.mul_le_mul (hf i) h2
      omega
    exact Nat.or_lt_two_pow (n := 16) hs h1
