theorem m_copyA {g : zS} {k i c : Nat} (hk : k < 4) (hi : i + c ≤ 60) : ∃ g' : zS, f_X4_copy_L107 (nI k) (nI i) (nI c) 100 0 g = some g' ∧ (∀ j, j < c → g' 29 j = g 28 (60 * k + i + j)) ∧ (∀ q, q ≠ 29 → g' q = g q) := by
  obtain ⟨a', h1, h2⟩ := zl_inv (fun q x (a : zS) => f_X4_copy_L107 (nI k) (nI i) (nI c) q (nI x) a) c (fun x a => (∀ j, j < x → a 29 j = g 28 (60 * k + i + j)) ∧ (∀ q, q ≠ 29 → a q = g q)) (fun a => a)
    (fun q a _ => by
      show f_X4_copy_L107 (nI k) (nI i) (nI c) (q + 1) (nI c) a = some a
      rw [f_X4_copy_L107, if_pos (nI_le (Nat.le_refl c) (by omega))])
    (fun q x a hx hI => by
      refine ⟨va_up a 29 (upd (a 29) x (a 28 (60 * k + i + x))), ⟨?_, ?_⟩, ?_⟩
      · intro j hj
        rw [q_up]
        by_cases e : j = x
        · subst e; rw [q_upd, hI.2 28 (by decide)]
        · rw [q_updn e]; exact hI.1 j (by omega)
      · intro q hq
        rw [q_upn hq]
        exact hI.2 q hq
      · show f_X4_copy_L107 (nI k) (nI i) (nI c) (q + 1) (nI x) a = f_X4_copy_L107 (nI k) (nI i) (nI c) q (nI (x + 1)) _
        rw [f_X4_copy_L107, if_neg (nI_ge hx (by omega)), show (60 : Int32) = nI 60 from rfl, pk_mul, nI_add, nI_add, q_rd (show 60 * k + i + x < 240 by omega) (by decide), q_in (show x < 60 by omega) (by decide), q_lt, q_cl (by omega), nI_1])
    c 0 g 100 (by omega) ⟨fun j hj => by omega, fun _ _ => rfl⟩ (by omega)
  exact ⟨a', h2, h1⟩
theorem m_copyB {g : zS} {k i c : Nat} (hk : k < 4) (hi : i + c ≤ 60) : ∃ g' : zS, f_X4_copy_L144 (nI k) (nI i) (nI c) 100 0 g = some g' ∧ (∀ j, j < c → g' 28 (60 * k + i + j) = g 29 j) ∧ (∀ p, (p < 60 * k + i ∨ 60 * k + i + c ≤ p) → g' 28 p = g 28 p) ∧ (∀ q, q ≠ 28 → g' q = g q) := by
  obtain ⟨a', h1, h2⟩ := zl_inv (fun q x (a : zS) => f_X4_copy_L144 (nI k) (nI i) (nI c) q (nI x) a) c (fun x a => (∀ j, j < x → a 28 (60 * k + i + j) = g 29 j) ∧ (∀ p, (p < 60 * k + i ∨ 60 * k + i + c ≤ p) → a 28 p = g 28 p) ∧ (∀ q, q ≠ 28 → a q = g q)) (fun a => a)
    (fun q a _ => by
      show f_X4_copy_L144 (nI k) (nI i) (nI c) (q + 1) (nI c) a = some a
      rw [f_X4_copy_L144, if_pos (nI_le (Nat.le_refl c) (by omega))])
    (fun q x a hx hI => by
      refine ⟨va_up a 28 (upd (a 28) (60 * k + i + x) (a 29 x)), ⟨?_, ?_, ?_⟩, ?_⟩
      · intro j hj
        rw [q_up]
        by_cases e : j = x
        · subst e; rw [q_upd, hI.2.2 29 (by decide)]
        · rw [q_updn (by omega)]; exact hI.1 j (by omega)
      · intro p hp
        rw [q_up, q_updn (by omega)]
        exact hI.2.1 p hp
      · intro q hq
        rw [q_upn hq]
        exact hI.2.2 q hq
      · show f_X4_copy_L144 (nI k) (nI i) (nI c) (q + 1) (nI x) a = f_X4_copy_L144 (nI k) (nI i) (nI c) q (nI (x + 1)) _
        rw [f_X4_copy_L144, if_neg (nI_ge hx (by omega)), q_rd (show x < 60 by omega) (by decide), show (60 : Int32) = nI 60 from rfl, pk_mul, nI_add, nI_add, q_in (show 60 * k + i + x < 240 by omega) (by decide), q_lt, q_cl (by omega), nI_1])
    c 0 g 100 (by omega) ⟨fun j hj => by omega, fun _ _ => rfl, fun _ _ => rfl⟩ (by omega)
  exact ⟨a', h2, h1⟩
theorem p_copy {o : zS} {s : zS4} {n : zS} {t : zS} {r : zS} {g : zS} (h : zRel o s n t r g) (x1 x2 x3 x4 x5 : Int32) : ∃ (r0 : Int32) (o' : zS) (s' : zS4) (g' : zS), f_X3_copy o s x1 x2 x3 x4 x5 = some (r0, o', s') ∧ f_X4_copy g x1 x2 x3 x4 x5 = some (r0, g') ∧ zRel o' s' n t r g' := by
  unfold f_X3_copy f_X4_copy
  rw [q_lt]
  rcases k_sheet x1 with ⟨k, hk, rfl, hx, hm⟩ | ⟨hx, hm⟩
  rotate_left
  · rw [hx, hm, q_b1, q_b1, if_pos i00, if_neg i10]
    exact ⟨_, _, _, _, rfl, rfl, zRel_f h 0⟩
  rw [hx, hm, q_b1, q_b1, if_neg i10, if_pos i00]
  rcases k_sheet x3 with ⟨w, hw, rfl, hx2, hm2⟩ | ⟨hx2, hm2⟩
  rotate_left
  · rw [hx2, hm2, q_b1, q_b1, if_pos i00, if_neg i10]
    exact ⟨_, _, _, _, rfl, rfl, zRel_f h 0⟩
  rw [hx2, hm2, q_b1, q_b1, if_neg i10, if_pos i00, q_in hk (by decide), q_in hw (by decide), q_cl (by omega), q_cl (by omega), q_rd hk (by decide)]
  rcases h.2.2.2.2.1 k hk with ⟨a, b⟩ | ⟨a, len, lane, h1, h2, h3, h4, h5, h6, h7⟩
  · rw [if_pos a, b, if_pos (by decide)]
    exact ⟨_, _, _, _, rfl, rfl, zRel_f2 h 1 0⟩
  rw [if_neg (by rw [a]; decide), h4, if_neg (nI_pos (by omega)), q_rd hw (by decide)]
  rcases h.2.2.2.2.1 w hw with ⟨a', b'⟩ | ⟨a', len', lane', h1', h2', h3', h4', h5', h6', h7'⟩
  · rw [if_pos a', b', if_neg (by decide)]
    exact ⟨_, _, _, _, rfl, rfl, zRel_f2 h 1 0⟩
  rw [if_neg (by rw [a']; decide), h4', if_pos (nI_pos' (by omega)), q_rd hk (by decide), q_rd hw (by decide), h5, h5', h6, h6']
  by_cases c : nI lane = nI lane'
  rotate_left
  · rw [if_neg c, if_neg c]
    exact ⟨_, _, _, _, rfl, rfl, zRel_f2 h 2 0⟩
  rw [if_pos c, if_pos c, q_rd hk (by decide), h4, m_beyond x2 x5 h1, q_b1, x_holds h3 h1, x_holds h3' h1', q_b1]
  by_cases c5 : x5 < 0
  · rw [if_pos c5]
    rw [q_l x5 0 (by decide)] at c5
    rw [if_neg (show ¬ (0 ≤ x2.toInt ∧ 0 ≤ x5.toInt ∧ x2.toInt + x5.toInt ≤ len) by omega), if_neg i10]
    exact ⟨_, _, _, _, rfl, rfl, zRel_f2 h 3 0⟩
  rw [if_neg c5]
  rw [q_l x5 0 (by decide)] at c5
  by_cases c2 : 0 ≤ x2.toInt ∧ 0 ≤ x5.toInt ∧ x2.toInt + x5.toInt ≤ len
  rotate_left
  · rw [if_neg c2, if_neg (show ¬ (0 ≤ x2.toInt ∧ x2.toInt ≤ len ∧ x5.toInt ≤ len - x2.toInt) by omega), if_neg i10, if_pos i00]
    exact ⟨_, _, _, _, rfl, rfl, zRel_f2 h 3 0⟩
  rw [if_pos c2, if_pos (show 0 ≤ x2.toInt ∧ x2.toInt ≤ len ∧ x5.toInt ≤ len - x2.toInt by omega), if_pos i00, if_neg i10, q_rd hw (by decide), h4', m_beyond x4 x5 h1', q_b1, q_b1]
  by_cases c4 : 0 ≤ x4.toInt ∧ 0 ≤ x5.toInt ∧ x4.toInt + x5.toInt ≤ len'
  rotate_left
  · rw [if_neg c4, if_neg (show ¬ (0 ≤ x4.toInt ∧ x4.toInt ≤ len' ∧ x5.toInt ≤ len' - x4.toInt) by omega), if_neg i10, if_pos i00]
    exact ⟨_, _, _, _, rfl, rfl, zRel_f2 h 3 0⟩
  rw [if_pos c4, if_pos (show 0 ≤ x4.toInt ∧ x4.toInt ≤ len' ∧ x5.toInt ≤ len' - x4.toInt by omega), if_pos i00, if_neg i10]
  obtain ⟨i, hi, rfl⟩ : ∃ j : Nat, j ≤ 60 ∧ x2 = nI j := by
    rcases q_rng x2 0 60 (by decide) with ⟨j, -, a, b⟩ | q
    · exact ⟨j, a, b⟩
    · omega
  obtain ⟨j, hj, rfl⟩ : ∃ j : Nat, j ≤ 60 ∧ x4 = nI j := by
    rcases q_rng x4 0 60 (by decide) with ⟨j, -, a, b⟩ | q
    · exact ⟨j, a, b⟩
    · omega
  obtain ⟨d, hd, rfl⟩ : ∃ j : Nat, j ≤ 60 ∧ x5 = nI j := by
    rcases q_rng x5 0 60 (by decide) with ⟨j, -, a, b⟩ | q
    · exact ⟨j, a, b⟩
    · omega
  rw [q_ti (by omega), q_ti (by omega)] at c2 c4
  obtain ⟨g1, a1, a2, a3⟩ := m_copyA (g := g) (k := k) (i := i) (c := d) hk (by omega)
  obtain ⟨g2, b1, b2, b3, b4⟩ := m_copyB (g := g1) (k := w) (i := j) (c := d) hw (by omega)
  rw [a1, q_b1, b1, q_b1, q_cl (by omega), q_cl (by omega), q_cl (by omega)]
  unfold zq_cp
  rw [q_cl (by omega), q_cl (by omega), q_cl (by omega), if_pos ⟨⟨nI_pos (by omega), nI_pos (by omega), nI_pos (by omega)⟩, ⟨by omega, by omega⟩, fun _ _ => rfl⟩, q_lt]
  refine ⟨_, _, _, _, rfl, rfl, ?_⟩
  refine zRel_s (zRel_f h 0) (zSh_set h.2.2.2.2.1 (Or.inr ⟨a', len', lane', h1', h2', h3', ?_, h5', ?_, ?_⟩) ?_ ?_ ?_) ?_
  · show g2 26 w = _
    rw [b4 26 (by decide), a3 26 (by decide)]
    exact h4'
  · show g2 27 w = _
    rw [b4 27 (by decide), a3 27 (by decide)]
    exact h6'
  · intro p hp
    show va_cpy (s k 0) (s w 0) i j d p = g2 28 (60 * w + p)
    by_cases cp : j ≤ p ∧ p < j + d
    · rw [pk_cpy_in cp.1 cp.2, h7 _ (by omega)]
      have := b2 (p - j) (by omega)
      rw [show 60 * w + j + (p - j) = 60 * w + p by omega] at this
      rw [this, a2 (p - j) (by omega)]
      congr 1
      omega
    · rw [pk_cpy_out (by omega), h7' p hp, b3 _ (by omega), a3 28 (by decide)]
  · intro q _ hq
    show g2 26 q = _
    rw [b4 26 (by decide), a3 26 (by decide)]
  · intro q _ hq
    show g2 27 q = _
    rw [b4 27 (by decide), a3 27 (by decide)]
  · intro q p _ hq hp
    show g2 28 (60 * q + p) = _
    rw [b3 _ (by omega), a3 28 (by decide)]
  · intro q hq
    by_cases c0 : q = 0
    · subst c0
      rfl
    · rw [q_upn c0, q_upn c0, b4 q (by omega), a3 q (by omega)]
