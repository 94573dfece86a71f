theorem zRel_s {o : zS} {s s' : zS4} {n t r g g' : zS} (h : zRel o s n t r g) (hs : zSh s' g') (e : ∀ k, (k < 10 ∨ (21 ≤ k ∧ k ≤ 24) ∨ k = 30) → g' k = g k) : zRel o s' n t r g' := by
  have e0 := e 0 (by omega)
  have e1 := e 1 (by omega)
  have e2 := e 2 (by omega)
  have e3 := e 3 (by omega)
  have e4 := e 4 (by omega)
  have e5 := e 5 (by omega)
  have e6 := e 6 (by omega)
  have e7 := e 7 (by omega)
  have e8 := e 8 (by omega)
  have e9 := e 9 (by omega)
  have e21 := e 21 (by omega)
  have e22 := e 22 (by omega)
  have e23 := e 23 (by omega)
  have e24 := e 24 (by omega)
  have e30 := e 30 (by omega)
  obtain ⟨h1, h2, h3, h4, -, h6⟩ := h
  refine ⟨by rw [e30]; exact h1, by rw [e0]; exact h2, h3, h4, hs, ?_⟩
  simpa only [zMod, zRd, e0, e1, e2, e3, e4, e5, e6, e7, e8, e9, e21, e22, e23, e24, e30] using h6
theorem zSh_set {s : zS4} {s1 g g' : zS} {k : Nat} (h : zSh s g) (h1 : zSh1 s1 g' k) (e26 : ∀ j, j < 4 → j ≠ k → g' 26 j = g 26 j) (e27 : ∀ j, j < 4 → j ≠ k → g' 27 j = g 27 j) (e28 : ∀ j i, j < 4 → j ≠ k → i < 60 → g' 28 (60 * j + i) = g 28 (60 * j + i)) : zSh (va_up s k s1) g' := by
  intro j hj
  by_cases c : j = k
  · subst c
    rw [q_up]
    exact h1
  · rw [q_upn c]
    rcases h j hj with ⟨a, b⟩ | ⟨a, len, lane, h1, h2, h3, h4, h5, h6, h7⟩
    · exact Or.inl ⟨a, by rw [e26 j hj c]; exact b⟩
    · exact Or.inr ⟨a, len, lane, h1, h2, h3, by rw [e26 j hj c]; exact h4, h5, by rw [e27 j hj c]; exact h6, fun i hi => by rw [e28 j i hj c (by omega)]; exact h7 i hi⟩
theorem x_holds {s : zS} {len : Nat} (hs : s 3 0 = nI len) (hl : len ≤ 60) (x1 x2 : Int32) : f_X1_holds s x1 x2 = some (if 0 ≤ x1.toInt ∧ x1.toInt ≤ len ∧ x2.toInt ≤ len - x1.toInt then 1 else 0) := by
  unfold f_X1_holds
  rw [hs]
  by_cases c : x1 < 0
  · rw [if_pos c, if_neg]
    rw [q_l x1 0 (by decide)] at c
    omega
  · rw [if_neg c]
    rw [q_l x1 0 (by decide)] at c
    by_cases c2 : nI len < x1
    · rw [if_pos c2, if_neg]
      rw [Int32.lt_iff_toInt_lt, q_ti (by omega)] at c2
      omega
    · rw [if_neg c2]
      rw [Int32.lt_iff_toInt_lt, q_ti (by omega)] at c2
      rcases q_ix x1 (len + 1) (by omega) with ⟨j, hj, rfl⟩ | h
      · rw [q_ti (by omega), pk_sub (by omega)]
        by_cases c3 : nI (len - j) < x2
        · rw [if_pos c3, if_neg]
          rw [Int32.lt_iff_toInt_lt, q_ti (by omega)] at c3
          omega
        · rw [if_neg c3, if_pos]
          rw [Int32.lt_iff_toInt_lt, q_ti (by omega)] at c3
          omega
      · have := q_out (by omega) h
        omega
/-- what taking cells is refused with, by the class: 0: they may be -/
theorem x_fault0 {s : zS} (h : s 1 0 = 0) (x1 x2 x3 : Int32) : f_X1_faultOfCells s x1 x2 x3 = some 1 := by
  unfold f_X1_faultOfCells
  rw [if_pos h, if_pos h]
theorem x_fault1 {s : zS} {len lane : Nat} (h : s 1 0 = 1) (hlen : len ≤ 60) (h3 : s 3 0 = nI len) (h2 : s 2 0 = nI lane) (x1 x2 x3 : Int32) : f_X1_faultOfCells s x1 x2 x3 = some (if nI lane = x1 then (if 0 ≤ x3.toInt then (if 0 ≤ x2.toInt ∧ x2.toInt ≤ len ∧ x3.toInt ≤ len - x2.toInt then 0 else 3) else 4) else 2) := by
  have h0 : ¬ s 1 0 = 0 := by rw [h]; decide
  unfold f_X1_faultOfCells
  rw [if_neg h0, h2]
  by_cases c : nI lane = x1
  · rw [if_pos c, if_pos c, if_neg h0]
    by_cases c3 : 0 ≤ x3
    · rw [if_pos c3, if_pos ((q_re x3 0 (by decide)).mp c3), x_holds h3 hlen, q_b1]
      by_cases c4 : 0 ≤ x2.toInt ∧ x2.toInt ≤ len ∧ x3.toInt ≤ len - x2.toInt
      · rw [if_pos c4, if_pos c4, if_neg (by decide)]
      · rw [if_neg c4, if_neg c4, if_pos rfl]
    · rw [if_neg c3, if_neg (fun q => c3 ((q_re x3 0 (by decide)).mpr q))]
  · rw [if_neg c, if_neg c]
theorem m_noCell0 {g : zS} {k : Nat} (hk : k < 4) (h : g 26 k = -1) (x : Int32) : f_X4_noCell g (nI k) x = some 1 := by
  unfold f_X4_noCell
  rw [q_rd hk (by decide), h, if_neg (by decide)]
theorem m_noCell1 {g : zS} {k len : Nat} (hk : k < 4) (hl : len ≤ 60) (h : g 26 k = nI len) (x : Int32) : f_X4_noCell g (nI k) x = some (if 0 ≤ x.toInt ∧ x.toInt < len then 0 else 3) := by
  unfold f_X4_noCell
  rw [q_rd hk (by decide), h, if_pos (nI_pos' (by omega)), q_rd hk (by decide), h, q_inI, q_b1, q_m1 (by omega), show (0 : Int64).toInt = 0 by decide]
  by_cases c : 0 ≤ x.toInt ∧ x.toInt < len
  · rw [if_pos c, if_pos (show 0 ≤ x.toInt ∧ x.toInt ≤ (len : Int) - 1 by omega), if_neg (by decide)]
  · rw [if_neg c, if_neg (show ¬ (0 ≤ x.toInt ∧ x.toInt ≤ (len : Int) - 1) by omega), if_pos rfl]
theorem q_upd {f : Nat → Int32} {k : Nat} {x : Int32} : upd f k x k = x := if_pos rfl
theorem q_updn {f : Nat → Int32} {k j : Nat} {x : Int32} (h : j ≠ k) : upd f k x j = f j := if_neg h
theorem p_lose {o : zS} {s : zS4} {n : zS} {t : zS} {r : zS} {g : zS} (h : zRel o s n t r g) (x1 : Int32) : ∃ (r0 : Int32) (s' : zS4) (g' : zS), f_X3_lose s x1 = some (r0, s') ∧ f_X4_lose g x1 = some (r0, g') ∧ zRel o s' n t r g' := by
  unfold f_X3_lose f_X4_lose
  rcases k_sheet x1 with ⟨k, hk, rfl, hx, hm⟩ | ⟨hx, hm⟩
  · rw [hx, hm, q_b1, q_b1, if_neg (by decide), if_pos rfl, q_in hk (by decide), q_in hk (by decide), q_rd hk (by decide), q_lt, q_cl (by omega), q_in hk (by decide), q_lt, q_in hk (by decide), q_lt]
    have hz : zRel o (va_up s k (va_up (s k) 1 (fun _ => 0))) n t r (va_up g 26 (upd (g 26) k (-1))) := by
      refine zRel_s h (zSh_set h.2.2.2.2.1 (Or.inl ⟨rfl, ?_⟩) ?_ ?_ ?_) (fun j hj => q_upn (by omega))
      · rw [q_up, q_upd]
      · intro j _ hj
        rw [q_up, q_updn hj]
      · intro j _ hj
        rw [q_upn (by decide)]
      · intro j i _ hj _
        rw [q_upn (by decide)]
    rcases h.2.2.2.2.1 k hk with ⟨a, b⟩ | ⟨a, len, lane, h1, h2, h3, h4, h5, h6, h7⟩
    · rw [if_pos a, b, if_neg (by decide)]
      exact ⟨0, _, _, rfl, rfl, hz⟩
    · rw [a, if_neg (by decide), h4, if_pos (nI_pos' (by omega))]
      exact ⟨1, _, _, rfl, rfl, hz⟩
  · rw [hx, hm, q_b1, q_b1, if_pos rfl, if_neg (by decide)]
    exact ⟨-1, s, g, rfl, rfl, h⟩
theorem q_60 {k j : Nat} (hk : k < 4) (hj : j < 60) : (60 * nI k + nI j : Int32) = nI (60 * k + j) := by
  rw [show (60 : Int32) = nI 60 from rfl, pk_mul, nI_add]
theorem p_put {o : zS} {s : zS4} {n : zS} {t : zS} {r : zS} {g : zS} (h : zRel o s n t r g) (x1 x2 x3 : Int32) : ∃ (r0 : Int32) (o' : zS) (s' : zS4) (g' : zS), f_X3_put o s x1 x2 x3 = some (r0, o', s') ∧ f_X4_put g x1 x2 x3 = some (r0, g') ∧ zRel o' s' n t r g' := by
  unfold f_X3_put f_X4_put
  rw [q_lt]
  rcases k_sheet x1 with ⟨k, hk, rfl, hx, hm⟩ | ⟨hx, hm⟩
  · rw [hx, hm, q_b1, q_b1, if_neg (by decide), if_pos rfl, q_in hk (by decide), q_cl (by omega)]
    rcases h.2.2.2.2.1 k hk with ⟨a, b⟩ | ⟨a, len, lane, h1, h2, h3, h4, h5, h6, h7⟩
    · rw [x_fault0 a, m_noCell0 hk b, q_b1, q_b1, if_neg (by decide), if_neg (by decide), q_b1]
      exact ⟨-11, _, s, _, rfl, rfl, zRel_f2 h 1 0⟩
    · rw [x_fault1 a h1 h3 h5, m_noCell1 hk h1 h4, if_pos h5.symm, if_pos (show (0 : Int) ≤ (1 : Int32).toInt by decide), show (1 : Int32).toInt = 1 by decide]
      by_cases c : 0 ≤ x2.toInt ∧ x2.toInt < len
      · rw [if_pos (show 0 ≤ x2.toInt ∧ x2.toInt ≤ len ∧ 1 ≤ len - x2.toInt by omega), if_pos c, q_b1, q_b1, if_pos rfl, if_pos (by decide)]
        obtain ⟨j, hj, rfl⟩ : ∃ j : Nat, j < len ∧ x2 = nI j := by
          rcases q_ix x2 len (by omega) with q | q
          · exact q
          · have := q_out (by omega) q
            omega
        rw [q_60 hk (by omega), q_rd hk (by decide), h6]
        have hz : ∀ v : Int32, zRel (va_up o 6 (fun _ => 0)) (va_up s k (va_up (s k) 0 (upd (s k 0) j v))) n t r (va_up (va_up g 28 (upd (g 28) (60 * k + j) v)) 0 (fun _ => 0)) := by
          intro v
          refine zRel_s (zRel_f h 0) (zSh_set h.2.2.2.2.1 (Or.inr ⟨a, len, lane, h1, h2, h3, h4, h5, h6, ?_⟩) (fun _ _ _ => rfl) (fun _ _ _ => rfl) ?_) ?_
          · intro i hi
            show upd (s k 0) j v i = upd (g 28) (60 * k + j) v (60 * k + i)
            by_cases ci : i = j
            · subst ci
              rw [q_upd, q_upd]
            · rw [q_updn ci, q_updn (by omega)]
              exact h7 i hi
          · intro q i _ hq _
            show upd (g 28) (60 * k + j) v (60 * q + i) = _
            rw [q_updn (by omega)]
          · intro q hq
            by_cases c0 : q = 0
            · subst c0
              rfl
            · rw [q_upn c0, q_upn c0, q_upn (by omega)]
        unfold f_X1_cutToLane
        rw [h5]
        by_cases c0 : nI lane = 0
        · rw [if_pos c0, if_pos c0, q_b1, q_in (show j < 60 by omega) (by decide), q_lt, q_cl (by omega), q_in (show 60 * k + j < 240 by omega) (by decide), q_lt, q_cl (by omega)]
          exact ⟨1, _, _, _, rfl, rfl, hz _⟩
        · rw [if_neg c0, if_neg c0, q_rd hk (by decide), h6]
          by_cases c1 : nI lane = 1
          · rw [if_pos c1, if_pos c1, q_b1, q_in (show j < 60 by omega) (by decide), q_lt, q_cl (by omega), q_in (show 60 * k + j < 240 by omega) (by decide), q_lt, q_cl (by omega)]
            exact ⟨1, _, _, _, rfl, rfl, hz _⟩
          · rw [if_neg c1, if_neg c1, q_b1, q_in (show j < 60 by omega) (by decide), q_lt, q_cl (by omega), q_in (show 60 * k + j < 240 by omega) (by decide), q_lt, q_cl (by omega)]
            exact ⟨1, _, _, _, rfl, rfl, hz _⟩
      · rw [if_neg (show ¬ (0 ≤ x2.toInt ∧ x2.toInt ≤ len ∧ 1 ≤ len - x2.toInt) by omega), if_neg c, q_b1, q_b1, if_neg (by decide), if_neg (by decide), q_b1]
        exact ⟨-13, _, s, _, rfl, rfl, zRel_f2 h 3 0⟩
  · rw [hx, hm, q_b1, q_b1, if_pos rfl, if_neg (by decide)]
    exact ⟨-1, _, s, _, rfl, rfl, zRel_f h 0⟩
theorem p_cell {o : zS} {s : zS4} {n : zS} {t : zS} {r : zS} {g : zS} (h : zRel o s n t r g) (x1 x2 x3 : Int32) : ∃ (r0 : Int64) (o' : zS) (g' : zS), f_X3_cell o s x1 x2 x3 = some (r0, o') ∧ f_X4_cell g x1 x2 x3 = some (r0, g') ∧ zRel o' s n t r g' := by
  unfold f_X3_cell f_X4_cell
  rw [q_lt, q_lt]
  rcases k_sheet x1 with ⟨k, hk, rfl, hx, hm⟩ | ⟨hx, hm⟩
  · rw [hx, hm, q_b1, q_b1, if_neg (by decide), if_pos rfl]
    rcases k_lane x3 with ⟨w, hw, rfl, hx2, hm2⟩ | ⟨hx2, hm2⟩
    · rw [hx2, hm2, q_b1, q_b1, if_neg (by decide), if_neg (by decide), q_in hk (by decide), q_cl (by omega), q_rd hk (by decide)]
      have hg : ∀ v : Int32, zRel (va_up (va_up o 6 (fun _ => 0)) 6 (fun _ => v)) s n t r (va_up (va_up g 0 (fun _ => 0)) 0 (fun _ => v)) := by
        intro v
        obtain ⟨a1, a2, a3, a4, a5, a6⟩ := h
        exact ⟨a1, rfl, a3, a4, a5, a6⟩
      rcases h.2.2.2.2.1 k hk with ⟨a, b⟩ | ⟨a, len, lane, h1, h2, h3, h4, h5, h6, h7⟩
      · rw [x_fault0 a, q_b1, q_lt, q_up, if_neg (by decide), q_upn (by decide), b, if_pos (by decide)]
        unfold f_X4_cell_J53
        rw [m_noCell0 hk (by rw [q_upn (by decide)]; exact b), q_b1, if_neg (by decide), q_b1]
        exact ⟨_, _, _, rfl, rfl, hg 1⟩
      · rw [x_fault1 a h1 h3 h5, q_b1, q_lt, q_up, q_upn (by decide), h4, if_neg (nI_pos (by omega)), q_rd hk (by decide), q_upn (by decide), h6]
        by_cases cl : nI lane = nI w
        · rw [if_pos cl, if_pos cl, if_pos (show (0 : Int) ≤ (1 : Int32).toInt by decide), show (1 : Int32).toInt = 1 by decide]
          unfold f_X4_cell_J53
          rw [m_noCell1 hk h1 (by rw [q_upn (by decide)]; exact h4)]
          by_cases c : 0 ≤ x2.toInt ∧ x2.toInt < len
          · rw [if_pos (show 0 ≤ x2.toInt ∧ x2.toInt ≤ len ∧ 1 ≤ len - x2.toInt by omega), if_pos c, q_b1, if_pos rfl, if_pos (by decide)]
            obtain ⟨j, hj, rfl⟩ : ∃ j : Nat, j < len ∧ x2 = nI j := by
              rcases q_ix x2 len (by omega) with q | q
              · exact q
              · have := q_out (by omega) q
                omega
            rw [q_60 hk (by omega), q_rd (show j < 60 by omega) (by decide), q_rd (show 60 * k + j < 240 by omega) (by decide), q_upn (by decide), h7 j hj]
            refine ⟨_, _, _, rfl, rfl, ?_⟩
            obtain ⟨a1, a2, a3, a4, a5, a6⟩ := h
            exact ⟨a1, rfl, a3, a4, a5, a6⟩
          · rw [if_neg (show ¬ (0 ≤ x2.toInt ∧ x2.toInt ≤ len ∧ 1 ≤ len - x2.toInt) by omega), if_neg c, q_b1, if_neg (by decide), if_neg (by decide), q_b1]
            exact ⟨_, _, _, rfl, rfl, hg 3⟩
        · rw [if_neg cl, if_neg cl, if_neg (by decide)]
          exact ⟨_, _, _, rfl, rfl, hg 2⟩
    · rw [hx2, hm2, q_b1, q_b1, if_pos rfl, if_pos rfl]
      exact ⟨_, _, _, rfl, rfl, zRel_f h 0⟩
  · rw [hx, hm, q_b1, q_b1, if_pos rfl, if_neg (by decide)]
    exact ⟨_, _, _, rfl, rfl, zRel_f h 0⟩
