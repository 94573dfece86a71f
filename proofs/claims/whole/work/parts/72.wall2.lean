section ZW2
variable {s0 : zS} {b c i : Nat}
theorem x_tc {n n1 : zS} {z : Nat} {x r : Int32} (hx : ¬ x = 59) (h : f_X2_takeLevel n (x - 48) = some (r, n1)) : f_X2_takeCode n (nI (if z = 0 then 4 else 5)) x = some (r, n1) := by
  unfold f_X2_takeCode f_X2_takeMore
  by_cases c : z = 0
  · rw [if_pos c, if_neg (show ¬ nI 4 = 0 by decide), if_neg (show ¬ nI 4 = 1 by decide), if_neg (show ¬ nI 4 = 2 by decide), if_neg (show ¬ nI 4 = 3 by decide), if_pos (show nI 4 = 4 from rfl), h]
    rfl
  · rw [if_neg c, if_neg (show ¬ nI 5 = 0 by decide), if_neg (show ¬ nI 5 = 1 by decide), if_neg (show ¬ nI 5 = 2 by decide), if_neg (show ¬ nI 5 = 3 by decide), if_neg (show ¬ nI 5 = 4 by decide), if_pos (show nI 5 = 5 from rfl), if_neg hx, h]
    rfl
theorem j_digits {m : Nat} {K : Nat → Nat} (hic : i + c ≤ 60) (hb : b + c ≤ 240) : ∀ e (n g : zS) (L : Nat) (F Z V hm : Nat → Nat) p km, Z m + e = 4 → e < km → p ≤ c → zP n g (m + 1) L F Z K V hm → g 10 0 = nI p → (∀ j, j < c → g 28 (b + j) = s0 0 (i + j)) → ∃ (n' g' : zS) (L' : Nat) (F' Z' V' hm' : Nat → Nat) (p' : Nat), f_X4_readsModule_L110 (nI b) (nI c) (nI m) km g = some g' ∧ zXr s0 i c (if Z m = 0 then 4 else 5) p n = zXr s0 i c (if Z' m = 0 then 4 else 5) p' n' ∧ zP n' g' (m + 1) L' F' Z' K V' hm' ∧ g' 10 0 = nI p' ∧ p' ≤ c ∧ (Z' m = 4 ∨ p' = c ∨ (p' < c ∧ f_X3_isLevel (s0 0 (i + p') - 48) = some 0)) ∧ (∀ z, z ≠ 10 → z ≠ 13 → z ≠ 15 → z ≠ 16 → g' z = g z) ∧ (n' 3 = n 3 ∧ n' 6 = n 6 ∧ n' 7 = n 7 ∧ n' 10 = n 10) ∧ (∀ j, j ≠ m → Z' j = Z j)
  | 0, n, g, L, F, Z, V, hm, p, km, he, hk, hp, hP, h10, hs => by
    obtain ⟨km, rfl⟩ : ∃ z, km = z + 1 := ⟨km - 1, by omega⟩
    have hm4 : m < 4 := by have := hP.1; omega
    have e15 := (hP.2.2.2.2.2.2.2.2.2.1 m (by omega)).2.2.2.2.2
    refine ⟨n, g, L, F, Z, V, hm, p, ?_, rfl, hP, h10, hp, Or.inl (by omega), fun _ _ _ _ _ => rfl, ⟨rfl, rfl, rfl, rfl⟩, fun _ _ => rfl⟩
    rw [f_X4_readsModule_L110, q_rd hm4 (by decide), e15, if_pos (show 4 ≤ nI (Z m) from nI_le (a := 4) (by omega) (by omega))]
  | e + 1, n, g, L, F, Z, V, hm, p, km, he, hk, hp, hP, h10, hs => by
    obtain ⟨km, rfl⟩ : ∃ z, km = z + 1 := ⟨km - 1, by omega⟩
    have hm4 : m < 4 := by have := hP.1; omega
    have hz : Z m < 4 := by omega
    have hL := hP.l15 hz
    have e15 := (hP.2.2.2.2.2.2.2.2.2.1 m (by omega)).2.2.2.2.2
    have e13 := hP.2.2.2.2.2.2.2.2.1
    have stop : ∀ x, f_X4_codeAt g (nI b) (nI c) = some x → f_X4_in (Int32.toInt64 x) 48 57 = some 0 → f_X4_readsModule_L110 (nI b) (nI c) (nI m) (km + 1) g = some g := by
      intro x h1 h2
      rw [f_X4_readsModule_L110, q_rd hm4 (by decide), e15, if_neg (show ¬ 4 ≤ nI (Z m) from nI_ge (b := 4) hz (by decide)), h1, q_b1, h2, q_b1, if_pos i00]
    have hco := m_code (i := i) (s0 := s0) hb hp h10 hs
    by_cases q : p < c
    rotate_left
    · rw [if_neg q] at hco
      exact ⟨n, g, L, F, Z, V, hm, p, stop _ hco (by decide), rfl, hP, h10, hp, Or.inr (Or.inl (by omega)), fun _ _ _ _ _ => rfl, ⟨rfl, rfl, rfl, rfl⟩, fun _ _ => rfl⟩
    rw [if_pos q] at hco
    rcases k_dig (s0 0 (i + p)) with ⟨v, hv, ex, ev, hl, hin⟩ | ⟨hl, hin⟩
    rotate_left
    · exact ⟨n, g, L, F, Z, V, hm, p, stop _ hco hin, rfl, hP, h10, hp, Or.inr (Or.inr ⟨q, hl⟩), fun _ _ _ _ _ => rfl, ⟨rfl, rfl, rfl, rfl⟩, fun _ _ => rfl⟩
    rw [ev] at hl
    obtain ⟨n1, a1, a2, a3, a4, a5, a6, a7, a8, a9, a10, a11, a12⟩ := x_lev1 hP hz hl
    have hx59 : ¬ s0 0 (i + p) = 59 := by
      rw [ex, show (59 : Int32) = nI 59 from rfl, nI_eq (by omega) (by omega)]
      omega
    have hstep := zXr_n (s0 := s0) (n := n) (n' := n1) (st := if Z m = 0 then 4 else 5) (r := 5) hic q (by omega) (x_tc (z := Z m) hx59 (by rw [ev]; exact a1))
    have hP1 : zP n1 (va_up (va_up (va_up (va_up g 16 (upd (g 16) L (nI v))) 13 (fun _ => nI (L + 1))) 15 (upd (g 15) m (nI (Z m + 1)))) 10 (fun _ => nI (p + 1))) (m + 1) (L + 1) (va_up F (m + 1) (L + 1)) (va_up Z m (Z m + 1)) K (va_up V L v) (va_up hm L m) := zP_lev hP hz hv a2 a3 rfl a4 a5 a6 a7 rfl rfl a8 a9 rfl
    obtain ⟨n', g', L', F', Z', V', hm', p', r1, r2, r3, r4, r5, r6, r7, r8, r9⟩ := j_digits hic hb e n1 _ (L + 1) _ _ _ _ (p + 1) km (by rw [q_up]; omega) (by omega) (by omega) hP1 rfl (fun j hj => hs j hj)
    refine ⟨n', g', L', F', Z', V', hm', p', ?_, ?_, r3, r4, r5, r6, ?_, ?_, ?_⟩
    · rw [f_X4_readsModule_L110, q_rd hm4 (by decide), e15, if_neg (show ¬ 4 ≤ nI (Z m) from nI_ge (b := 4) hz (by decide)), hco, q_b1, hin, q_b1, if_neg i10, q_b1, e13, q_in (show L < 16 by omega) (by decide), q_lt, q_lt, q_rd hm4 (by decide), q_in hm4 (by decide), q_lt, q_lt, q_cl (by omega), q_cl (by omega), ev]
      show f_X4_readsModule_L110 (nI b) (nI c) (nI m) km (va_up (va_up (va_up (va_up g 16 (upd (g 16) L (nI v))) 13 (fun _ => g 13 0 + 1)) 15 (upd (g 15) m (g 15 m + 1))) 10 (fun _ => g 10 0 + 1)) = some g'
      rw [e13, e15, h10, nI_1, nI_1, nI_1]
      exact r1
    · rw [hstep, ← r2, q_up, if_neg (by omega)]
    · intro z z1 z2 z3 z4
      rw [r7 z z1 z2 z3 z4, q_upn z1, q_upn z3, q_upn z2, q_upn z4]
    · exact ⟨by rw [r8.1, a6], by rw [r8.2.1, a10], by rw [r8.2.2.1, a11], by rw [r8.2.2.2, a12]⟩
    · intro j hj
      rw [r9 j hj, q_upn hj]
theorem x_addm {n g : zS} {m L v : Nat} {F Z K V hm : Nat → Nat} (h : zP n g m L F Z K V hm) (hm4 : m < 4) : ∃ n', f_X2_addModule n (nI v) = some (4, n') ∧ n' 8 0 = nI (m + 1) ∧ n' 9 = n 9 ∧ n' 0 = upd (n 0) m (nI v) ∧ n' 1 = upd (n 1) m (nI L) ∧ n' 3 = upd (n 3) m 0 ∧ n' 2 = upd (n 2) m 0 ∧ n' 4 = n 4 ∧ n' 5 = n 5 ∧ n' 6 = n 6 ∧ n' 7 = n 7 ∧ n' 10 = n 10 := by
  have e8 := h.2.2.2.2.2.2.1
  have e9 := h.2.2.2.2.2.2.2.1
  refine ⟨va_up (va_up (va_up (va_up (va_up n 0 (upd (n 0) m (nI v))) 1 (upd (n 1) m (nI L))) 2 (upd (n 2) m 0)) 3 (upd (n 3) m 0)) 8 (fun _ => nI (m + 1)), ?_, rfl, rfl, rfl, rfl, rfl, rfl, rfl, rfl, rfl, rfl, rfl⟩
  have k1 : ∀ (Q : zS) (f : Nat → Int32), va_up Q 0 f 8 = Q 8 := fun _ _ => rfl
  have k2 : ∀ (Q : zS) (f : Nat → Int32), va_up Q 1 f 8 = Q 8 := fun _ _ => rfl
  have k3 : ∀ (Q : zS) (f : Nat → Int32), va_up Q 2 f 8 = Q 8 := fun _ _ => rfl
  have k4 : ∀ (Q : zS) (f : Nat → Int32), va_up Q 3 f 8 = Q 8 := fun _ _ => rfl
  have k9 : ∀ (Q : zS) (f : Nat → Int32), va_up Q 0 f 9 = Q 9 := fun _ _ => rfl
  unfold f_X2_addModule
  rw [e8, if_pos (show nI m < 4 from nI_lt (b := 4) hm4 (by decide)), q_in hm4 (by decide), q_lt, k1, e8, q_in hm4 (by decide), q_lt, k2, k1, e8, q_in hm4 (by decide), q_lt, k3, k2, k1, e8, q_in hm4 (by decide), q_lt, q_lt, k4, k3, k2, k1, e8, nI_1, q_cl (by omega), k9, e9]
  rfl
theorem j_after {n g : zS} {m L v p : Nat} {F Z K V hm : Nat → Nat} (hic : i + c ≤ 60) (hb : b + c ≤ 240) (hP : zP n g m L F Z K V hm) (hm4 : m < 4) (hv : v ≤ 2) (hp : p ≤ c) (h1 : ∀ j, j < m → 1 ≤ Z j) (hb4 : zB4 n) (h12 : g 12 0 = nI m) (h10 : g 10 0 = nI p) (hs : ∀ j, j < c → g 28 (b + j) = s0 0 (i + j)) : ∃ n1, f_X2_addModule n (nI v) = some (4, n1) ∧ ((∃ (g' : zS) (p' : Nat), f_X4_readsModule_J101 (nI b) (nI c) (nI m) (nI v) (nI m) g = some (0, g') ∧ g' 10 0 = nI p' ∧ p' ≤ c ∧ zFl (zXr s0 i c 4 p n1) c p' ∧ (∀ z, (z < 10 ∨ 16 < z ∨ z = 11) → g' z = g z)) ∨ (∃ (n' g' : zS) (L' : Nat) (F' Z' K' V' hm' : Nat → Nat) (p' : Nat), f_X4_readsModule_J101 (nI b) (nI c) (nI m) (nI v) (nI m) g = some (1, g') ∧ zXr s0 i c 4 p n1 = zXr s0 i c 5 p' n' ∧ zP n' g' (m + 1) L' F' Z' K' V' hm' ∧ (∀ j, j < m + 1 → 1 ≤ Z' j) ∧ zB4 n' ∧ g' 12 0 = nI (m + 1) ∧ g' 10 0 = nI p' ∧ p' ≤ c ∧ (Z' m = 4 ∨ p' = c ∨ (p' < c ∧ f_X3_isLevel (s0 0 (i + p') - 48) = some 0)) ∧ (∀ z, (z < 10 ∨ 16 < z ∨ z = 11) → g' z = g z) ∧ n' 6 = n 6 ∧ n' 7 = n 7 ∧ n' 10 = n 10)) := by
  obtain ⟨n1, a1, a2, a3, a4, a5, a6, a7, a8, a9, a10, a11, a12⟩ := x_addm (v := v) hP hm4
  refine ⟨n1, a1, ?_⟩
  have hb1 : zB4 n1 := by
    intro j hj
    rw [a6]
    by_cases e : j = m
    · subst e
      rw [q_upd]
      exact Or.inl rfl
    · rw [q_updn e]
      exact hb4 j hj
  have hP1 : zP n1 (va_up (va_up g 14 (upd (g 14) m (nI v))) 15 (upd (g 15) m 0)) (m + 1) L (va_up F (m + 1) L) (va_up Z m 0) (va_up K m v) V hm := zP_mod hP hm4 hv a2 a3 rfl a4 a5 a6 a7 rfl rfl a8 a9 rfl
  obtain ⟨n', g', L', F', Z', V', hm', p', r1, r2, r3, r4, r5, r6, r7, r8, r9⟩ := j_digits (s0 := s0) hic hb 4 n1 _ L _ _ _ _ p 100 (by rw [q_up]) (by omega) hp hP1 (by
    show g 10 0 = nI p
    exact h10) (fun j hj => hs j hj)
  rw [q_up, if_pos rfl] at r2
  have e15 := (r3.2.2.2.2.2.2.2.2.2.1 m (by omega)).2.2.2.2.2
  have hz4 := (r3.2.2.1 m (by omega)).2.1
  have h12' : g' 12 0 = nI m := by
    rw [r7 12 (by decide) (by decide) (by decide) (by decide)]
    exact h12
  have hfr : ∀ z, (z < 10 ∨ 16 < z ∨ z = 11) → va_up g' 12 (fun _ => nI (m + 1)) z = g z := fun z hz => by
    rw [q_upn (by omega), r7 z (by omega) (by omega) (by omega) (by omega), q_upn (by omega), q_upn (by omega)]
  have hJ : f_X4_readsModule_J101 (nI b) (nI c) (nI m) (nI v) (nI m) g = if nI (Z' m) ≤ 0 then some (0, va_up g' 12 (fun _ => nI (m + 1))) else some (1, va_up g' 12 (fun _ => nI (m + 1))) := by
    unfold f_X4_readsModule_J101
    rw [q_in hm4 (by decide), q_lt, q_in hm4 (by decide), q_lt, q_cl (by omega)]
    show zq_b1 (f_X4_readsModule_L110 (nI b) (nI c) (nI m) 100 (va_up (va_up g 14 (upd (g 14) m (nI v))) 15 (upd (g 15) m 0))) _ = _
    rw [r1, q_b1, q_lt, q_rd hm4 (by decide), h12', nI_1, q_upn (by decide), e15]
  by_cases z0 : Z' m = 0
  · left
    rw [z0, if_pos rfl] at r2
    refine ⟨_, p', by rw [hJ, z0]; exact if_pos (by decide), ?_, r5, ?_, hfr⟩
    · rw [q_upn (by decide)]
      exact r4
    · rw [r2]
      have hbn : zB4 n' := zB4_e hb1 r8.1
      rcases r6 with q | q | ⟨q1, q2⟩
      · omega
      · left
        rw [q]
        exact ⟨4, n', zXr_e hic, by omega, rfl, hbn⟩
      · right
        refine ⟨n', ?_, hbn⟩
        by_cases x59 : s0 0 (i + p') = 59
        · refine zXr_6 hic q1 ?_
          unfold f_X2_takeCode
          rw [if_neg (show ¬ nI 4 = 0 by decide), if_neg (show ¬ nI 4 = 1 by decide), if_neg (show ¬ nI 4 = 2 by decide), if_neg (show ¬ nI 4 = 3 by decide), if_pos (show nI 4 = 4 from rfl), x_lev0 q2]
          rfl
        · exact zXr_6 hic q1 (x_tc (z := 0) x59 (x_lev0 q2))
  · right
    rw [if_neg z0] at r2
    refine ⟨n', va_up g' 12 (fun _ => nI (m + 1)), L', F', Z', va_up K m v, V', hm', p', by rw [hJ]; exact if_neg (nI_nle (by omega) (by omega)), r2, zP_g r3 (fun z z1 z2 => q_upn (by omega)), ?_, zB4_e hb1 r8.1, rfl, ?_, r5, r6, hfr, ?_, ?_, ?_⟩
    · intro j hj
      by_cases e : j = m
      · subst e
        omega
      · rw [r9 j e, q_upn e]
        exact h1 j (by omega)
    · rw [q_upn (by decide)]
      exact r4
    · rw [r8.2.1, a10]
    · rw [r8.2.2.1, a11]
    · rw [r8.2.2.2, a12]
theorem x_bad5 {n g : zS} {m L : Nat} {F Z K V hm : Nat → Nat} {x : Int32} (hP : zP n g (m + 1) L F Z K V hm) (hx : Z m = 4 ∨ f_X3_isLevel (x - 48) = some 0) : f_X2_takeLevel n (x - 48) = some (6, n) := by
  rcases k_dig x with ⟨v, hv, ex, ev, hl, hin⟩ | ⟨hl, hin⟩
  · rcases hx with hz | hx
    · exact x_lev4 hP hz hl
    · rw [hl] at hx
      exact absurd hx (by decide)
  · exact x_lev0 hl
theorem j_module {n g : zS} {m L p st : Nat} {F Z K V hm : Nat → Nat} (hic : i + c ≤ 60) (hb : b + c ≤ 240) (hst : (m = 0 ∧ st = 2) ∨ (1 ≤ m ∧ st = 5 ∧ p < c ∧ (Z (m - 1) = 4 ∨ f_X3_isLevel (s0 0 (i + p) - 48) = some 0))) (hP : zP n g m L F Z K V hm) (hp : p ≤ c) (h1 : ∀ j, j < m → 1 ≤ Z j) (hb4 : zB4 n) (h12 : g 12 0 = nI m) (h10 : g 10 0 = nI p) (hs : ∀ j, j < c → g 28 (b + j) = s0 0 (i + j)) : (∃ (g' : zS) (p' : Nat), f_X4_readsModule g (nI b) (nI c) = some (0, g') ∧ g' 10 0 = nI p' ∧ p' ≤ c ∧ zFl (zXr s0 i c st p n) c p' ∧ (∀ z, (z < 10 ∨ 16 < z ∨ z = 11) → g' z = g z)) ∨ (m < 4 ∧ ∃ (n' g' : zS) (L' : Nat) (F' Z' K' V' hm' : Nat → Nat) (p' : Nat), f_X4_readsModule g (nI b) (nI c) = some (1, g') ∧ zXr s0 i c st p n = zXr s0 i c 5 p' n' ∧ zP n' g' (m + 1) L' F' Z' K' V' hm' ∧ (∀ j, j < m + 1 → 1 ≤ Z' j) ∧ zB4 n' ∧ g' 12 0 = nI (m + 1) ∧ g' 10 0 = nI p' ∧ p' ≤ c ∧ (Z' m = 4 ∨ p' = c ∨ (p' < c ∧ f_X3_isLevel (s0 0 (i + p') - 48) = some 0)) ∧ (∀ z, (z < 10 ∨ 16 < z ∨ z = 11) → g' z = g z) ∧ n' 6 = n 6 ∧ n' 7 = n 7 ∧ n' 10 = n 10) := by
  have hm4 := hP.1
  have e8 := hP.2.2.2.2.2.2.1
  have hco := m_code (i := i) (s0 := s0) hb hp h10 hs
  -- a code that is no semicolon, and one too many
  have bad : p < c → (¬ s0 0 (i + p) = 59 ∨ m = 4) → f_X2_takeCode n (nI st) (s0 0 (i + p)) = some (6, n) := by
    intro q hx
    rcases hst with ⟨hm0, rfl⟩ | ⟨hm1, rfl, -, hz⟩
    · unfold f_X2_takeCode
      rw [if_neg (show ¬ nI 2 = 0 by decide), if_neg (show ¬ nI 2 = 1 by decide), if_pos (show nI 2 = 2 from rfl), if_neg]
      rcases hx with hx | hx
      · exact hx
      · omega
    · obtain ⟨m', rfl⟩ : ∃ z, m = z + 1 := ⟨m - 1, by omega⟩
      by_cases x59 : s0 0 (i + p) = 59
      · have hm4 : m' + 1 = 4 := by
          rcases hx with hx | hx
          · exact absurd x59 hx
          · exact hx
        unfold f_X2_takeCode f_X2_takeMore
        rw [if_neg (show ¬ nI 5 = 0 by decide), if_neg (show ¬ nI 5 = 1 by decide), if_neg (show ¬ nI 5 = 2 by decide), if_neg (show ¬ nI 5 = 3 by decide), if_neg (show ¬ nI 5 = 4 by decide), if_pos (show nI 5 = 5 from rfl), if_pos x59, e8, hm4, if_pos (by decide)]
        rfl
      · exact x_tc (z := 1) x59 (x_bad5 hP hz)
  unfold f_X4_readsModule
  rw [h12]
  by_cases cm : m = 4
  · left
    subst cm
    have q : p < c := by
      rcases hst with ⟨h, -⟩ | ⟨-, -, q, -⟩
      · omega
      · exact q
    exact ⟨g, p, if_pos (by decide), h10, hp, Or.inr ⟨n, zXr_6 hic q (bad q (Or.inr rfl)), hb4⟩, fun _ _ => rfl⟩
  have hm4 : m < 4 := by omega
  rw [if_neg (show ¬ nI m = 4 by rw [show (4 : Int32) = nI 4 from rfl, nI_eq (by omega) (by omega)]; exact cm), hco, q_b1]
  by_cases q : p < c
  rotate_left
  · left
    rw [if_neg q, if_neg (by decide)]
    refine ⟨g, p, rfl, h10, hp, Or.inl ?_, fun _ _ => rfl⟩
    rcases hst with ⟨hm0, rfl⟩ | ⟨-, -, q', -⟩
    · have e : p = c := by omega
      rw [e]
      exact ⟨2, n, zXr_e hic, by omega, rfl, hb4⟩
    · omega
  rw [if_pos q]
  by_cases x59 : s0 0 (i + p) = 59
  rotate_left
  · left
    rw [if_neg x59]
    exact ⟨g, p, rfl, h10, hp, Or.inr ⟨n, zXr_6 hic q (bad q (Or.inl x59)), hb4⟩, fun _ _ => rfl⟩
  rw [if_pos x59, q_lt, h10, nI_1]
  have hX : zXr s0 i c st p n = zXr s0 i c 3 (p + 1) n := by
    refine zXr_n hic q (by omega) ?_
    rcases hst with ⟨hm0, rfl⟩ | ⟨hm1, rfl, -, hz⟩
    · unfold f_X2_takeCode
      rw [if_neg (show ¬ nI 2 = 0 by decide), if_neg (show ¬ nI 2 = 1 by decide), if_pos (show nI 2 = 2 from rfl), if_pos x59]
      rfl
    · unfold f_X2_takeCode f_X2_takeMore
      rw [if_neg (show ¬ nI 5 = 0 by decide), if_neg (show ¬ nI 5 = 1 by decide), if_neg (show ¬ nI 5 = 2 by decide), if_neg (show ¬ nI 5 = 3 by decide), if_neg (show ¬ nI 5 = 4 by decide), if_pos (show nI 5 = 5 from rfl), if_pos x59, e8, if_neg (show ¬ 4 ≤ nI m from nI_ge (b := 4) hm4 (by decide))]
      rfl
  rw [hX]
  have hco2 := m_code (g := va_up g 10 (fun _ => nI (p + 1))) (p := p + 1) (i := i) (s0 := s0) hb (by omega) rfl (fun j hj => hs j hj)
  rw [hco2, q_b1]
  have fr0 : ∀ z, (z < 10 ∨ 16 < z ∨ z = 11) → va_up g 10 (fun _ => nI (p + 1)) z = g z := fun z hz => q_upn (by omega)
  by_cases q2 : p + 1 < c
  rotate_left
  · left
    rw [if_neg q2, if_neg (by decide), if_neg (by decide), if_neg (by decide)]
    have e : p + 1 = c := by omega
    refine ⟨_, p + 1, rfl, rfl, by omega, Or.inl ?_, fr0⟩
    rw [e]
    exact ⟨3, n, zXr_e hic, by omega, rfl, hb4⟩
  rw [if_pos q2]
  -- a letter
  have letter : ∀ v : Nat, v ≤ 2 → (∀ n1, f_X2_addModule n (nI v) = some (4, n1) → f_X2_takeCode n (nI 3) (s0 0 (i + (p + 1))) = some (nI 4, n1)) → ∀ R, R = f_X4_readsModule_J101 (nI b) (nI c) (nI m) (nI v) (nI m) (va_up (va_up g 10 (fun _ => nI (p + 1))) 10 (fun _ => nI (p + 1 + 1))) → ((∃ (g' : zS) (p' : Nat), R = some (0, g') ∧ g' 10 0 = nI p' ∧ p' ≤ c ∧ zFl (zXr s0 i c 3 (p + 1) n) c p' ∧ (∀ z, (z < 10 ∨ 16 < z ∨ z = 11) → g' z = g z)) ∨ (m < 4 ∧ ∃ (n' g' : zS) (L' : Nat) (F' Z' K' V' hm' : Nat → Nat) (p' : Nat), R = some (1, g') ∧ zXr s0 i c 3 (p + 1) n = zXr s0 i c 5 p' n' ∧ zP n' g' (m + 1) L' F' Z' K' V' hm' ∧ (∀ j, j < m + 1 → 1 ≤ Z' j) ∧ zB4 n' ∧ g' 12 0 = nI (m + 1) ∧ g' 10 0 = nI p' ∧ p' ≤ c ∧ (Z' m = 4 ∨ p' = c ∨ (p' < c ∧ f_X3_isLevel (s0 0 (i + p') - 48) = some 0)) ∧ (∀ z, (z < 10 ∨ 16 < z ∨ z = 11) → g' z = g z) ∧ n' 6 = n 6 ∧ n' 7 = n 7 ∧ n' 10 = n 10)) := by
    intro v hv htc R hR
    obtain ⟨n1, a1, a2⟩ := j_after (s0 := s0) (n := n) (g := va_up (va_up g 10 (fun _ => nI (p + 1))) 10 (fun _ => nI (p + 1 + 1))) (v := v) (p := p + 1 + 1) hic hb (zP_g hP (fun z z1 z2 => by rw [q_upn (by omega), q_upn (by omega)])) hm4 hv (by omega) h1 hb4 (by
      show g 12 0 = nI m
      exact h12) rfl (fun j hj => hs j hj)
    rw [zXr_n hic q2 (by omega) (htc n1 a1), hR]
    have fr1 : ∀ z, (z < 10 ∨ 16 < z ∨ z = 11) → va_up (va_up g 10 (fun _ => nI (p + 1))) 10 (fun _ => nI (p + 1 + 1)) z = g z := fun z hz => by rw [q_upn (by omega), q_upn (by omega)]
    rcases a2 with ⟨g', p', b1, b2, b3, b4, b5⟩ | ⟨n', g', L', F', Z', K', V', hm', p', b1, b2, b3, b4, b5, b6, b7, b8, b9, b10, b11⟩
    · left
      exact ⟨g', p', b1, b2, b3, b4, fun z hz => by rw [b5 z hz, fr1 z hz]⟩
    · right
      exact ⟨hm4, n', g', L', F', Z', K', V', hm', p', b1, b2, b3, b4, b5, b6, b7, b8, b9, fun z hz => by rw [b10 z hz, fr1 z hz], b11⟩
  unfold f_X4_readsModule_J58
  have st3 : ∀ R, f_X2_takeLetter n (s0 0 (i + (p + 1))) = some R → f_X2_takeCode n (nI 3) (s0 0 (i + (p + 1))) = some R := by
    intro R hR
    unfold f_X2_takeCode
    rw [if_neg (show ¬ nI 3 = 0 by decide), if_neg (show ¬ nI 3 = 1 by decide), if_neg (show ¬ nI 3 = 2 by decide), if_pos (show nI 3 = 3 from rfl), hR]
    rfl
  have hJ : ∀ v : Int32, zq_lt (va_up (va_up g 10 (fun _ => nI (p + 1))) 10 (fun _ => ((va_up g 10 (fun _ => nI (p + 1))) 10 0) + 1)) (fun g9 => f_X4_readsModule_J101 (nI b) (nI c) (g9 12 0) v (g9 12 0) g9) = f_X4_readsModule_J101 (nI b) (nI c) (nI m) v (nI m) (va_up (va_up g 10 (fun _ => nI (p + 1))) 10 (fun _ => nI (p + 1 + 1))) := by
    intro v
    show f_X4_readsModule_J101 (nI b) (nI c) (g 12 0) v (g 12 0) (va_up (va_up g 10 (fun _ => nI (p + 1))) 10 (fun _ => nI (p + 1) + 1)) = _
    rw [h12, nI_1]
  by_cases c112 : s0 0 (i + (p + 1)) = 112
  · refine letter 0 (by omega) (fun n1 hn1 => st3 _ ?_) _ ?_
    · unfold f_X2_takeLetter
      rw [c112, if_neg (by decide), if_neg (by decide), if_pos rfl, show (0 : Int32) = nI 0 from rfl, hn1]
      rfl
    · rw [← hJ (nI 0), if_pos c112, c112]
      rfl
  rw [if_neg c112]
  by_cases c104 : s0 0 (i + (p + 1)) = 104
  · refine letter 1 (by omega) (fun n1 hn1 => st3 _ ?_) _ ?_
    · unfold f_X2_takeLetter
      rw [c104, if_neg (by decide), if_pos rfl, show (1 : Int32) = nI 1 from rfl, hn1]
      rfl
    · rw [← hJ (nI 1), if_pos c104, c104]
      rfl
  rw [if_neg c104]
  by_cases c98 : s0 0 (i + (p + 1)) = 98
  · refine letter 2 (by omega) (fun n1 hn1 => st3 _ ?_) _ ?_
    · unfold f_X2_takeLetter
      rw [c98, if_pos rfl, show (2 : Int32) = nI 2 from rfl, hn1]
      rfl
    · rw [← hJ (nI 2), if_pos c98, c98]
      rfl
  rw [if_neg c98]
  left
  refine ⟨_, p + 1, rfl, rfl, by omega, Or.inr ⟨n, zXr_6 hic q2 (st3 _ ?_), hb4⟩, fr0⟩
  unfold f_X2_takeLetter
  rw [if_neg c98, if_neg c104, if_neg c112]
theorem j_mods (hic : i + c ≤ 60) (hb : b + c ≤ 240) : ∀ e m (n g : zS) (L : Nat) (F Z K V hm : Nat → Nat) st p km, m + e = 4 → e + 1 < km → ((m = 0 ∧ st = 2) ∨ (1 ≤ m ∧ st = 5 ∧ (Z (m - 1) = 4 ∨ p = c ∨ (p < c ∧ f_X3_isLevel (s0 0 (i + p) - 48) = some 0)))) → zP n g m L F Z K V hm → p ≤ c → (∀ j, j < m → 1 ≤ Z j) → zB4 n → g 12 0 = nI m → g 10 0 = nI p → (∀ j, j < c → g 28 (b + j) = s0 0 (i + j)) → ((∃ (g' : zS) (p' : Nat), f_X4_readsWall_L80 (nI b) (nI c) km 1 g = some (0, g') ∧ g' 10 0 = nI p' ∧ p' ≤ c ∧ zFl (zXr s0 i c st p n) c p' ∧ (∀ z, (z < 10 ∨ 16 < z ∨ z = 11) → g' z = g z)) ∨ (∃ (n' g' : zS) (m' L' : Nat) (F' Z' K' V' hm' : Nat → Nat), 1 ≤ m' ∧ f_X4_readsWall_L80 (nI b) (nI c) km 1 g = some (1, g') ∧ zXr s0 i c st p n = some (Sum.inl (nI 5, n')) ∧ zP n' g' m' L' F' Z' K' V' hm' ∧ (∀ j, j < m' → 1 ≤ Z' j) ∧ zB4 n' ∧ g' 12 0 = nI m' ∧ (∀ z, (z < 10 ∨ 16 < z ∨ z = 11) → g' z = g z) ∧ n' 6 = n 6 ∧ n' 7 = n 7 ∧ n' 10 = n 10)) := by
  intro e
  induction e with
  | zero =>
    intro m n g L F Z K V hm st p km he hk hst hP hp h1 hb4 h12 h10 hs
    obtain ⟨km, rfl⟩ : ∃ z, km = z + 2 := ⟨km - 2, by omega⟩
    rw [f_X4_readsWall_L80, if_neg i10, h12, if_neg (show ¬ nI m < 1 from nI_nlt (b := 1) (by omega) (by omega)), h10]
    by_cases q : c ≤ p
    · right
      have e : p = c := by omega
      rw [if_pos (nI_le q (by omega)), e]
      rcases hst with ⟨hm0, rfl⟩ | ⟨hm1, rfl, hz⟩
      · omega
      · exact ⟨n, g, m, L, F, Z, K, V, hm, hm1, rfl, zXr_e hic, hP, h1, hb4, h12, fun _ _ => rfl, rfl, rfl, rfl⟩
    · rw [if_neg (nI_ge (by omega) (by omega))]
      rcases j_module (s0 := s0) (st := st) hic hb (by
        rcases hst with h | ⟨hm1, rfl, hz⟩
        · exact Or.inl h
        · refine Or.inr ⟨hm1, rfl, by omega, ?_⟩
          rcases hz with z | z | z
          · exact Or.inl z
          · omega
          · exact Or.inr z.2) hP hp h1 hb4 h12 h10 hs with ⟨g', p', b1, b2, b3, b4, b5⟩ | ⟨hm4, -⟩
      · left
        refine ⟨g', p', ?_, b2, b3, b4, b5⟩
        rw [b1, q_b2, f_X4_readsWall_L80, if_pos i00]
      · omega
  | succ e ih =>
    intro m n g L F Z K V hm st p km he hk hst hP hp h1 hb4 h12 h10 hs
    obtain ⟨km, rfl⟩ : ∃ z, km = z + 2 := ⟨km - 2, by omega⟩
    have main : ((m = 0 ∧ st = 2) ∨ (1 ≤ m ∧ st = 5 ∧ p < c ∧ (Z (m - 1) = 4 ∨ f_X3_isLevel (s0 0 (i + p) - 48) = some 0))) → ((∃ (g' : zS) (p' : Nat), zq_b2 (f_X4_readsModule g (nI b) (nI c)) (fun r18 g19 => f_X4_readsWall_L80 (nI b) (nI c) (km + 1) r18 g19) = some (0, g') ∧ g' 10 0 = nI p' ∧ p' ≤ c ∧ zFl (zXr s0 i c st p n) c p' ∧ (∀ z, (z < 10 ∨ 16 < z ∨ z = 11) → g' z = g z)) ∨ (∃ (n' g' : zS) (m' L' : Nat) (F' Z' K' V' hm' : Nat → Nat), 1 ≤ m' ∧ zq_b2 (f_X4_readsModule g (nI b) (nI c)) (fun r18 g19 => f_X4_readsWall_L80 (nI b) (nI c) (km + 1) r18 g19) = some (1, g') ∧ zXr s0 i c st p n = some (Sum.inl (nI 5, n')) ∧ zP n' g' m' L' F' Z' K' V' hm' ∧ (∀ j, j < m' → 1 ≤ Z' j) ∧ zB4 n' ∧ g' 12 0 = nI m' ∧ (∀ z, (z < 10 ∨ 16 < z ∨ z = 11) → g' z = g z) ∧ n' 6 = n 6 ∧ n' 7 = n 7 ∧ n' 10 = n 10)) := by
      intro hst'
      rcases j_module (s0 := s0) (st := st) hic hb hst' hP hp h1 hb4 h12 h10 hs with ⟨g', p', b1, b2, b3, b4, b5⟩ | ⟨hm4, n', g', L', F', Z', K', V', hm', p', b1, b2, b3, b4, b5, b6, b7, b8, b9, b10, b11, b12, b13⟩
      · left
        refine ⟨g', p', ?_, b2, b3, b4, b5⟩
        rw [b1, q_b2, f_X4_readsWall_L80, if_pos i00]
      · rw [b1, q_b2, b2]
        rcases ih (m + 1) n' g' L' F' Z' K' V' hm' 5 p' (km + 1) (by omega) (by omega) (Or.inr ⟨by omega, rfl, b9⟩) b3 b8 b4 b5 b6 b7 (fun j hj => by rw [b10 28 (by omega)]; exact hs j hj) with ⟨g2, p2, c1, c2, c3, c4, c5⟩ | ⟨n2, g2, m2, L2, F2, Z2, K2, V2, hm2, c1, c2, c3, c4, c5, c6, c7, c8, c9, c10, c11⟩
        · left
          exact ⟨g2, p2, c1, c2, c3, c4, fun z hz => by rw [c5 z hz, b10 z hz]⟩
        · right
          exact ⟨n2, g2, m2, L2, F2, Z2, K2, V2, hm2, c1, c2, c3, c4, c5, c6, c7, fun z hz => by rw [c8 z hz, b10 z hz], by rw [c9, b11], by rw [c10, b12], by rw [c11, b13]⟩
    rw [f_X4_readsWall_L80, if_neg i10, h12]
    rcases hst with ⟨hm0, hst2⟩ | ⟨hm1, hst5, hz⟩
    · rw [if_pos (show nI m < 1 from nI_lt (b := 1) (by omega) (by decide))]
      exact main (Or.inl ⟨hm0, hst2⟩)
    · rw [if_neg (show ¬ nI m < 1 from nI_nlt (b := 1) hm1 (by omega)), h10]
      by_cases q : c ≤ p
      · right
        have e : p = c := by omega
        rw [if_pos (nI_le q (by omega)), e, hst5]
        exact ⟨n, g, m, L, F, Z, K, V, hm, hm1, rfl, zXr_e hic, hP, h1, hb4, h12, fun _ _ => rfl, rfl, rfl, rfl⟩
      · rw [if_neg (nI_ge (by omega) (by omega))]
        refine main (Or.inr ⟨hm1, hst5, by omega, ?_⟩)
        rcases hz with z | z | z
        · exact Or.inl z
        · omega
        · exact Or.inr z.2
end ZW2
