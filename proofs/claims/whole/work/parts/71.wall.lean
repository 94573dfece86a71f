/-! reading a wall -/
theorem j_cells2 {s g : zS} {k : Nat} (hk : k < 4) (h : zSh1 s g k) (x2 x3 x4 : Int32) : (∃ v : Nat, 1 ≤ v ∧ v ≤ 4 ∧ f_X1_faultOfCells s x2 x3 x4 = some (nI v) ∧ f_X4_cellsBarred g (nI k) x2 x3 (Int32.toInt64 x4) = some ((-10) - nI v, va_up g 0 (fun _ => nI v))) ∨ (∃ i c : Nat, x3 = nI i ∧ x4 = nI c ∧ i + c ≤ 60 ∧ f_X1_faultOfCells s x2 x3 x4 = some 0 ∧ f_X4_cellsBarred g (nI k) x2 x3 (Int32.toInt64 x4) = some (0, g) ∧ ∀ p, i ≤ p → p < i + c → s 0 p = g 28 (60 * k + p)) := by
  rcases q_rng x4 0 60 (by decide) with ⟨c, -, hc, rfl⟩ | hx
  · rcases j_cells hk h x2 x3 hc with ⟨v, v1, v2, a, b⟩ | ⟨i, rfl, hi, a, b, e⟩
    · exact Or.inl ⟨v, v1, by omega, a, b⟩
    · exact Or.inr ⟨i, c, rfl, rfl, hi, a, b, e⟩
  left
  rcases h with ⟨a, b⟩ | ⟨a, len, lane, h1, h2, h3, h4, h5, h6, h7⟩
  · refine ⟨1, by omega, by omega, x_fault0 a _ _ _, ?_⟩
    unfold f_X4_cellsBarred f_X4_cellsBarred_J25
    rw [q_rd hk (by decide), b, if_pos (by decide), q_rd hk (by decide), b, if_neg (by decide)]
    rfl
  · rw [x_fault1 a h1 h3 h5]
    unfold f_X4_cellsBarred f_X4_cellsBarred_J25
    rw [q_rd hk (by decide), h4, if_neg (nI_pos (by omega)), q_rd hk (by decide), h6]
    by_cases c1 : nI lane = x2
    rotate_left
    · refine ⟨2, by omega, by omega, ?_, ?_⟩
      · rw [if_neg c1]; rfl
      · rw [if_neg c1]; rfl
    rw [if_pos c1, if_pos c1, q_rd hk (by decide), h4, if_pos (nI_pos' (by omega)), q_rd hk (by decide), h4, m_beyond _ _ h1, q_b1]
    have t0 : (0 : Int64).toInt = 0 := by decide
    by_cases c2 : x4.toInt < 0
    · refine ⟨4, by omega, by omega, ?_, ?_⟩
      · rw [if_neg (by omega)]; rfl
      · rw [if_neg]
        · rfl
        · unfold lg_cmp
          have l1 : ¬ Int32.toInt64 x4 > 0 := by
            show ¬ (0 : Int64) < Int32.toInt64 x4
            rw [Int64.lt_iff_toInt_lt, Int32.toInt_toInt64, t0]
            omega
          have l2 : ¬ Int32.toInt64 x4 = 0 := by
            intro e
            have := congrArg Int64.toInt e
            rw [Int32.toInt_toInt64, t0] at this
            omega
          rw [if_neg l1, if_neg l2]
          decide
    · refine ⟨3, by omega, by omega, ?_, ?_⟩
      · rw [if_pos (by omega), if_neg (by omega)]; rfl
      · rw [if_pos]
        · rw [if_neg (show ¬ (0 ≤ x3.toInt ∧ 0 ≤ x4.toInt ∧ x3.toInt + x4.toInt ≤ len) by omega), if_neg i10]; rfl
        · unfold lg_cmp
          have l1 : Int32.toInt64 x4 > 0 := by
            show (0 : Int64) < Int32.toInt64 x4
            rw [Int64.lt_iff_toInt_lt, Int32.toInt_toInt64, t0]
            omega
          rw [if_pos l1]
          decide
theorem k_dig (x : Int32) : (∃ v : Nat, v ≤ 9 ∧ x = nI (48 + v) ∧ x - 48 = nI v ∧ f_X3_isLevel (x - 48) = some 1 ∧ f_X4_in (Int32.toInt64 x) 48 57 = some 1) ∨ (f_X3_isLevel (x - 48) = some 0 ∧ f_X4_in (Int32.toInt64 x) 48 57 = some 0) := by
  have t1 : (48 : Int64).toInt = 48 := by decide
  have t2 : (57 : Int64).toInt = 57 := by decide
  rcases k_level (x - 48) with ⟨v, hv, e, a, b⟩ | ⟨a, b⟩
  · left
    have ex : x = nI (48 + v) := by
      have : x = (x - 48) + 48 := by rw [Int32.sub_add_cancel]
      rw [this, e, show (48 : Int32) = nI 48 from rfl, nI_add, Nat.add_comm]
    refine ⟨v, hv, ex, e, a, ?_⟩
    rw [ex]
    exact q_inT (by rw [t1, t2, q_ti (by omega)]; omega)
  · right
    refine ⟨a, ?_⟩
    rcases q_rng x 48 57 (by decide) with ⟨j, j1, j2, rfl⟩ | h
    · exfalso
      rw [show nI j - 48 = nI (j - 48) from pk_sub (b := 48) j1] at a
      have : ∀ v : Fin 10, f_X3_isLevel (nI v.val) = some 1 := by decide
      rw [this ⟨j - 48, by omega⟩] at a
      exact absurd a (by decide)
    · exact q_inF (by rw [t1, t2]; omega)
def zP (n g : zS) (m L : Nat) (F Z K V hm : Nat → Nat) : Prop := m ≤ 4 ∧ F 0 = 0 ∧ (∀ j, j < m → F (j + 1) = F j + Z j ∧ Z j ≤ 4 ∧ K j ≤ 2) ∧ L = F m ∧ (∀ j i, j < m → i < Z j → hm (F j + i) = j) ∧ (∀ l, l < L → V l ≤ 9) ∧ n 8 0 = nI m ∧ n 9 0 = nI L ∧ g 13 0 = nI L ∧ (∀ j, j < m → n 0 j = nI (K j) ∧ n 1 j = nI (F j) ∧ n 2 j = nI (Z j) ∧ n 3 j = 0 ∧ g 14 j = nI (K j) ∧ g 15 j = nI (Z j)) ∧ (∀ l, l < L → n 4 l = nI (V l) ∧ n 5 l = nI (hm l) ∧ g 16 l = nI (V l))
theorem zF_mono {F Z : Nat → Nat} {m : Nat} (h : ∀ j, j < m → F (j + 1) = F j + Z j) : ∀ k, k ≤ m → ∀ j, j ≤ k → F j ≤ F k
  | 0, _, j, hj => by
    rw [show j = 0 by omega]
    exact Nat.le_refl _
  | k + 1, hk, j, hj => by
    by_cases c : j = k + 1
    · subst c
      exact Nat.le_refl _
    · have := zF_mono h k (by omega) j (by omega)
      have := h k (by omega)
      omega
theorem zF_4 {F Z : Nat → Nat} {m : Nat} (h0 : F 0 = 0) (h : ∀ j, j < m → F (j + 1) = F j + Z j ∧ Z j ≤ 4) : ∀ k, k ≤ m → F k ≤ 4 * k
  | 0, _ => by omega
  | k + 1, hk => by
    have := zF_4 h0 h k (by omega)
    have := h k (by omega)
    omega
section ZW
variable {n n' g g' s0 : zS} {m L : Nat} {F Z K V hm : Nat → Nat}
theorem zP.l15 (h : zP n g (m + 1) L F Z K V hm) (hz : Z m < 4) : L ≤ 15 := by
  obtain ⟨a1, a2, a3, a4, -⟩ := h
  have := zF_4 a2 (fun j hj => ⟨(a3 j hj).1, (a3 j hj).2.1⟩) m (by omega)
  have := (a3 m (by omega)).1
  omega
theorem zP_lev (h : zP n g (m + 1) L F Z K V hm) (hz : Z m < 4) {v : Nat} (hv : v ≤ 9) (e8 : n' 8 = n 8) (e9 : n' 9 0 = nI (L + 1)) (e13 : g' 13 0 = nI (L + 1)) (e0 : n' 0 = n 0) (e1 : n' 1 = n 1) (e3 : n' 3 = n 3) (e2 : n' 2 = upd (n 2) m (nI (Z m + 1))) (e14 : g' 14 = g 14) (e15 : g' 15 = upd (g 15) m (nI (Z m + 1))) (e4 : n' 4 = upd (n 4) L (nI v)) (e5 : n' 5 = upd (n 5) L (nI m)) (e16 : g' 16 = upd (g 16) L (nI v)) : zP n' g' (m + 1) (L + 1) (va_up F (m + 1) (L + 1)) (va_up Z m (Z m + 1)) K (va_up V L v) (va_up hm L m) := by
  obtain ⟨a1, a2, a3, a4, a5, a6, a7, a8, a9, a10, a11⟩ := h
  have mono := zF_mono (fun j hj => (a3 j hj).1)
  have am := a3 m (by omega)
  refine ⟨a1, by rw [q_upn (by omega)]; exact a2, fun j hj => ?_, by rw [q_up], fun j i hj hi => ?_, fun l hl => ?_, by rw [e8]; exact a7, e9, e13, fun j hj => ?_, fun l hl => ?_⟩
  · by_cases c : j = m
    · subst c
      rw [q_up, q_upn (by omega), q_up]
      refine ⟨by omega, by omega, am.2.2⟩
    · rw [q_upn (by omega), q_upn (by omega), q_upn c]
      exact a3 j hj
  · have eF : va_up F (m + 1) (L + 1) j = F j := q_upn (by omega)
    rw [eF]
    by_cases c : j = m
    · subst c
      rw [q_up] at hi
      by_cases c2 : i = Z j
      · subst c2
        rw [show F j + Z j = L by omega, q_up]
      · rw [q_upn (by omega)]
        exact a5 j i hj (by omega)
    · rw [q_upn c] at hi
      have := mono (m + 1) (Nat.le_refl _) (j + 1) (by omega)
      have := (a3 j hj).1
      rw [q_upn (by omega)]
      exact a5 j i hj hi
  · by_cases c : l = L
    · subst c
      rw [q_up]
      exact hv
    · rw [q_upn c]
      exact a6 l (by omega)
  · obtain ⟨b1, b2, b3, b4, b5, b6⟩ := a10 j hj
    rw [e0, e1, e2, e3, e14, e15, q_upn (show j ≠ m + 1 by omega)]
    by_cases c : j = m
    · subst c
      rw [q_upd, q_upd, q_up]
      exact ⟨b1, b2, rfl, b4, b5, rfl⟩
    · rw [q_updn c, q_updn c, q_upn c]
      exact ⟨b1, b2, b3, b4, b5, b6⟩
  · rw [e4, e5, e16]
    by_cases c : l = L
    · subst c
      rw [q_upd, q_upd, q_upd, q_up, q_up]
      exact ⟨rfl, rfl, rfl⟩
    · rw [q_updn c, q_updn c, q_updn c, q_upn c, q_upn c]
      exact a11 l (by omega)
theorem zP_mod (h : zP n g m L F Z K V hm) (hm4 : m < 4) {v : Nat} (hv : v ≤ 2) (e8 : n' 8 0 = nI (m + 1)) (e9 : n' 9 = n 9) (e13 : g' 13 = g 13) (e0 : n' 0 = upd (n 0) m (nI v)) (e1 : n' 1 = upd (n 1) m (nI L)) (e3 : n' 3 = upd (n 3) m 0) (e2 : n' 2 = upd (n 2) m 0) (e14 : g' 14 = upd (g 14) m (nI v)) (e15 : g' 15 = upd (g 15) m 0) (e4 : n' 4 = n 4) (e5 : n' 5 = n 5) (e16 : g' 16 = g 16) : zP n' g' (m + 1) L (va_up F (m + 1) L) (va_up Z m 0) (va_up K m v) V hm := by
  obtain ⟨a1, a2, a3, a4, a5, a6, a7, a8, a9, a10, a11⟩ := h
  refine ⟨by omega, by rw [q_upn (by omega)]; exact a2, fun j hj => ?_, by rw [q_up], fun j i hj hi => ?_, a6, e8, by rw [e9]; exact a8, by rw [e13]; exact a9, fun j hj => ?_, fun l hl => ?_⟩
  · by_cases c : j = m
    · subst c
      rw [q_up, q_upn (by omega), q_up, q_up]
      exact ⟨by omega, by omega, hv⟩
    · rw [q_upn (by omega), q_upn (by omega), q_upn c, q_upn c]
      exact a3 j (by omega)
  · rw [q_upn (by omega)]
    by_cases c : j = m
    · subst c
      rw [q_up] at hi
      omega
    · rw [q_upn c] at hi
      exact a5 j i (by omega) hi
  · rw [e0, e1, e2, e3, e14, e15, q_upn (show j ≠ m + 1 by omega)]
    by_cases c : j = m
    · subst c
      rw [q_upd, q_upd, q_upd, q_upd, q_upd, q_upd, q_up, q_up, a4]
      exact ⟨rfl, rfl, rfl, rfl, rfl, rfl⟩
    · rw [q_updn c, q_updn c, q_updn c, q_updn c, q_updn c, q_updn c, q_upn c, q_upn c]
      exact a10 j (by omega)
  · rw [e4, e5, e16]
    exact a11 l hl
theorem zP_g (h : zP n g m L F Z K V hm) (e : ∀ z, 13 ≤ z → z ≤ 16 → g' z = g z) : zP n g' m L F Z K V hm := by
  have e1 := e 13 (by omega) (by omega)
  have e2 := e 14 (by omega) (by omega)
  have e3 := e 15 (by omega) (by omega)
  have e4 := e 16 (by omega) (by omega)
  simpa only [zP, e1, e2, e3, e4] using h
/-- the class's run -/
def zXr (s0 : zS) (i c st p : Nat) (n : zS) : Option ((Int32 × zS) ⊕ (Int32 × zS)) := f_X2_readText_L16 s0 (nI i) (nI c) (100 - p) (nI st) (nI p) n
theorem zXr_e {i c st : Nat} (hc : i + c ≤ 60) : zXr s0 i c st c n = some (Sum.inl (nI st, n)) := by
  unfold zXr
  rw [show 100 - c = (99 - c) + 1 by omega, f_X2_readText_L16, if_pos (nI_le (Nat.le_refl _) (by omega))]
theorem zXr_6 {i c st p : Nat} (hc : i + c ≤ 60) (hp : p < c) (h : f_X2_takeCode n (nI st) (s0 0 (i + p)) = some (6, n')) : zXr s0 i c st p n = some (Sum.inr (nI p, n')) := by
  unfold zXr
  rw [show 100 - p = (99 - p) + 1 by omega, f_X2_readText_L16, if_neg (nI_ge hp (by omega)), nI_add, q_rd (show i + p < 60 by omega) (by decide), h, q_b2, if_pos rfl]
theorem zXr_n {i c st p r : Nat} (hc : i + c ≤ 60) (hp : p < c) (hr : r < 6) (h : f_X2_takeCode n (nI st) (s0 0 (i + p)) = some (nI r, n')) : zXr s0 i c st p n = zXr s0 i c r (p + 1) n' := by
  unfold zXr
  rw [show 100 - p = (100 - (p + 1)) + 1 by omega, f_X2_readText_L16, if_neg (nI_ge hp (by omega)), nI_add, q_rd (show i + p < 60 by omega) (by decide), h, q_b2, if_neg (show ¬ nI r = 6 by rw [show (6 : Int32) = nI 6 from rfl, nI_eq (by omega) (by omega)]; omega), nI_1]
/-- it fails at p -/
def zFl (X : Option ((Int32 × zS) ⊕ (Int32 × zS))) (c p : Nat) : Prop := (∃ st n', X = some (Sum.inl (nI st, n')) ∧ st < 5 ∧ p = c ∧ zB4 n') ∨ (∃ n', X = some (Sum.inr (nI p, n')) ∧ zB4 n')
theorem m_code {b c i p : Nat} (hb : b + c ≤ 240) (hp : p ≤ c) (h10 : g 10 0 = nI p) (hs : ∀ j, j < c → g 28 (b + j) = s0 0 (i + j)) : f_X4_codeAt g (nI b) (nI c) = some (if p < c then s0 0 (i + p) else -9) := by
  unfold f_X4_codeAt
  rw [h10]
  by_cases q : p < c
  · rw [if_neg (nI_ge q (by omega)), nI_add, q_rd (show b + p < 240 by omega) (by decide), if_pos q, hs p q]
  · rw [if_pos (nI_le (by omega) (by omega)), if_neg q]
theorem x_lev0 {y : Int32} (h : f_X3_isLevel y = some 0) : f_X2_takeLevel n y = some (6, n) := by
  unfold f_X2_takeLevel
  rw [h, q_b1, if_pos i00]
theorem x_lev4 (h : zP n g (m + 1) L F Z K V hm) (hz : Z m = 4) {y : Int32} (hy : f_X3_isLevel y = some 1) : f_X2_takeLevel n y = some (6, n) := by
  have hm4 : m < 4 := by have := h.1; omega
  unfold f_X2_takeLevel
  rw [hy, q_b1, if_neg i10, h.2.2.2.2.2.2.1, nI_pred, if_neg (nI_pos (by omega)), q_rd hm4 (by decide), (h.2.2.2.2.2.2.2.2.2.1 m (by omega)).2.2.1, hz, if_pos (by decide)]
theorem x_lev1 (h : zP n g (m + 1) L F Z K V hm) (hz : Z m < 4) {v : Nat} (hv : f_X3_isLevel (nI v) = some 1) : ∃ n', f_X2_takeLevel n (nI v) = some (5, n') ∧ n' 8 = n 8 ∧ n' 9 0 = nI (L + 1) ∧ n' 0 = n 0 ∧ n' 1 = n 1 ∧ n' 3 = n 3 ∧ n' 2 = upd (n 2) m (nI (Z m + 1)) ∧ n' 4 = upd (n 4) L (nI v) ∧ n' 5 = upd (n 5) L (nI m) ∧ n' 6 = n 6 ∧ n' 7 = n 7 ∧ n' 10 = n 10 := by
  have hm4 : m < 4 := by have := h.1; omega
  have hL := h.l15 hz
  have e8 := h.2.2.2.2.2.2.1
  have e9 := h.2.2.2.2.2.2.2.1
  have e2 := (h.2.2.2.2.2.2.2.2.2.1 m (by omega)).2.2.1
  refine ⟨va_up (va_up (va_up (va_up n 4 (upd (n 4) L (nI v))) 5 (upd (n 5) L (nI m))) 9 (fun _ => nI (L + 1))) 2 (upd (n 2) m (nI (Z m + 1))), ?_, rfl, rfl, rfl, rfl, rfl, rfl, rfl, rfl, rfl, rfl, rfl⟩
  unfold f_X2_takeLevel
  rw [hv, q_b1, if_neg i10, e8, nI_pred, if_neg (nI_pos (by omega)), q_rd hm4 (by decide), e2, if_neg (show ¬ 4 ≤ nI (Z m) from nI_ge (b := 4) hz (by decide)), e9, if_pos (show nI L < 16 from nI_lt (b := 16) (by omega) (by decide)), q_in (show L < 16 by omega) (by decide), q_lt]
  rw [show (va_up n 4 (upd (n 4) (Int32.toNatClampNeg (nI L)) (nI v))) 9 0 = n 9 0 from rfl, e9, q_in (show L < 16 by omega) (by decide), q_lt, q_lt, q_rd hm4 (by decide), q_in hm4 (by decide), q_lt, q_cl (by omega), q_cl (by omega)]
  show some ((5 : Int32), va_up (va_up (va_up (va_up n 4 (upd (n 4) L (nI v))) 5 (upd (n 5) L (nI m))) 9 (fun _ => n 9 0 + 1)) 2 (upd (n 2) m (n 2 m + 1))) = _
  rw [e9, e2, nI_1, nI_1]
end ZW
