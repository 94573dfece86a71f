theorem q_inT {x : Int32} {l h : Int64} (c : l.toInt ≤ x.toInt ∧ x.toInt ≤ h.toInt) : f_X4_in (Int32.toInt64 x) l h = some 1 := by
  rw [q_inI, if_pos c]
theorem q_inF {x : Int32} {l h : Int64} (c : ¬ (l.toInt ≤ x.toInt ∧ x.toInt ≤ h.toInt)) : f_X4_in (Int32.toInt64 x) l h = some 0 := by
  rw [q_inI, if_neg c]
theorem q_m1 {M : Nat} (h : M ≤ 60) : (Int32.toInt64 (nI M) - 1).toInt = (M : Int) - 1 := by
  have : ∀ M : Fin 61, (Int32.toInt64 (nI M.val) - 1).toInt = (M.val : Int) - 1 := by decide
  exact this ⟨M, by omega⟩
theorem q_l (x : Int32) {y : Int32} (k : Int) (hk : y.toInt = k) : (x < y) ↔ x.toInt < k := by rw [Int32.lt_iff_toInt_lt, hk]
theorem q_r (x : Int32) {y : Int32} (k : Int) (hk : y.toInt = k) : (y < x) ↔ k < x.toInt := by rw [Int32.lt_iff_toInt_lt, hk]
theorem q_le (x : Int32) {y : Int32} (k : Int) (hk : y.toInt = k) : (x ≤ y) ↔ x.toInt ≤ k := by rw [Int32.le_iff_toInt_le, hk]
theorem q_re (x : Int32) {y : Int32} (k : Int) (hk : y.toInt = k) : (y ≤ x) ↔ k ≤ x.toInt := by rw [Int32.le_iff_toInt_le, hk]
/-- a number of a..b, or outside -/
theorem q_rng (x : Int32) (a b : Nat) (hb : b < 2147483647) : (∃ j : Nat, a ≤ j ∧ j ≤ b ∧ x = nI j) ∨ (x.toInt < a ∨ (b : Int) < x.toInt) := by
  rcases q_ix x (b + 1) (by omega) with ⟨j, hj, rfl⟩ | h
  · by_cases ha : a ≤ j
    · exact Or.inl ⟨j, ha, by omega, rfl⟩
    · right; left; rw [q_ti (by omega)]; omega
  · right
    have := q_out (by omega) h
    omega
theorem k_sheet (x : Int32) : (∃ k : Nat, k < 4 ∧ x = nI k ∧ f_X3_isSheet x = some 1 ∧ f_X4_noSheet x = some 0) ∨ (f_X3_isSheet x = some 0 ∧ f_X4_noSheet x = some 1) := by
  rcases q_rng x 0 3 (by decide) with ⟨j, -, hj, rfl⟩ | h
  · left
    have : ∀ j : Fin 4, f_X3_isSheet (nI j.val) = some 1 ∧ f_X4_noSheet (nI j.val) = some 0 := by decide
    exact ⟨j, by omega, rfl, this ⟨j, by omega⟩⟩
  · right
    unfold f_X3_isSheet f_X4_noSheet
    rw [q_inF (by rw [show (0 : Int64).toInt = 0 by decide, show (3 : Int64).toInt = 3 by decide]; omega)]
    refine ⟨?_, rfl⟩
    by_cases c : x < 0
    · rw [if_pos c]
    · rw [if_neg c, if_pos]
      rw [q_l x 0 (by decide)] at c
      rw [q_re x 4 (by decide)]
      omega
theorem k_lane (x : Int32) : (∃ k : Nat, k < 3 ∧ x = nI k ∧ f_X3_isLane x = some 1 ∧ f_X4_in (Int32.toInt64 x) 0 2 = some 1) ∨ (f_X3_isLane x = some 0 ∧ f_X4_in (Int32.toInt64 x) 0 2 = some 0) := by
  rcases q_rng x 0 2 (by decide) with ⟨j, -, hj, rfl⟩ | h
  · left
    have : ∀ j : Fin 3, f_X3_isLane (nI j.val) = some 1 ∧ f_X4_in (Int32.toInt64 (nI j.val)) 0 2 = some 1 := by decide
    exact ⟨j, by omega, rfl, this ⟨j, by omega⟩⟩
  · right
    unfold f_X3_isLane
    rw [q_inF (by rw [show (0 : Int64).toInt = 0 by decide, show (2 : Int64).toInt = 2 by decide]; omega)]
    refine ⟨?_, rfl⟩
    by_cases c : x < 0
    · rw [if_pos c]
    · rw [if_neg c, if_pos]
      rw [q_l x 0 (by decide)] at c
      rw [q_re x 3 (by decide)]
      omega
theorem k_level (x : Int32) : (∃ v : Nat, v ≤ 9 ∧ x = nI v ∧ f_X3_isLevel x = some 1 ∧ f_X4_isFigure x = some 1) ∨ (f_X3_isLevel x = some 0 ∧ f_X4_isFigure x = some 0) := by
  rcases q_rng x 0 9 (by decide) with ⟨j, -, hj, rfl⟩ | h
  · left
    have : ∀ j : Fin 10, f_X3_isLevel (nI j.val) = some 1 ∧ f_X4_isFigure (nI j.val) = some 1 := by decide
    exact ⟨j, by omega, rfl, this ⟨j, by omega⟩⟩
  · right
    unfold f_X3_isLevel f_X4_isFigure
    rw [q_inF (by rw [show (0 : Int64).toInt = 0 by decide, show (9 : Int64).toInt = 9 by decide]; omega)]
    refine ⟨?_, rfl⟩
    by_cases c : x < 0
    · rw [if_pos c]
    · rw [if_neg c, if_pos]
      rw [q_l x 0 (by decide)] at c
      rw [q_r x 9 (by decide)]
      omega
theorem k_cut (x : Int32) : (∃ v : Nat, 1 ≤ v ∧ v ≤ 8 ∧ x = nI v ∧ f_X3_isCut x = some 1 ∧ f_X4_isCut x = some 1) ∨ (f_X3_isCut x = some 0 ∧ f_X4_isCut x = some 0) := by
  rcases q_rng x 1 8 (by decide) with ⟨j, h1, hj, rfl⟩ | h
  · left
    have : ∀ j : Fin 8, f_X3_isCut (nI (j.val + 1)) = some 1 ∧ f_X4_isCut (nI (j.val + 1)) = some 1 := by decide
    have q := this ⟨j - 1, by omega⟩
    rw [show j - 1 + 1 = j by omega] at q
    exact ⟨j, h1, hj, rfl, q⟩
  · right
    unfold f_X3_isCut f_X4_isCut
    rw [q_inF (by rw [show (1 : Int64).toInt = 1 by decide, show (8 : Int64).toInt = 8 by decide]; omega)]
    refine ⟨?_, rfl⟩
    by_cases c : x < 1
    · rw [if_pos c]
    · rw [if_neg c, if_pos]
      rw [q_l x 1 (by decide)] at c
      rw [q_r x 8 (by decide)]
      omega
theorem k_unit (x : Int32) : (∃ t : Nat, t < 15 ∧ x = nI t ∧ f_X3_isUnit x = some 1 ∧ f_X4_in (Int32.toInt64 x) 0 14 = some 1) ∨ (f_X3_isUnit x = some 0 ∧ f_X4_in (Int32.toInt64 x) 0 14 = some 0) := by
  rcases q_rng x 0 14 (by decide) with ⟨j, -, hj, rfl⟩ | h
  · left
    have : ∀ j : Fin 15, f_X3_isUnit (nI j.val) = some 1 ∧ f_X4_in (Int32.toInt64 (nI j.val)) 0 14 = some 1 := by decide
    exact ⟨j, by omega, rfl, this ⟨j, by omega⟩⟩
  · right
    unfold f_X3_isUnit
    rw [q_inF (by rw [show (0 : Int64).toInt = 0 by decide, show (14 : Int64).toInt = 14 by decide]; omega)]
    refine ⟨?_, rfl⟩
    by_cases c : x < 0
    · rw [if_pos c]
    · rw [if_neg c, if_pos]
      rw [q_l x 0 (by decide)] at c
      rw [q_re x 15 (by decide)]
      omega
theorem k_mod {n g : zS} {M : Nat} (hM : M ≤ 4) (hn : n 8 0 = nI M) (hg : g 1 0 = nI M) (x : Int32) : (∃ m : Nat, m < M ∧ x = nI m ∧ f_X2_hasModule n x = some 1 ∧ f_X4_noModule g x = some 0) ∨ (f_X2_hasModule n x = some 0 ∧ f_X4_noModule g x = some 1) := by
  unfold f_X2_hasModule f_X4_noModule
  rw [hn, hg]
  rcases q_ix x M (by omega) with ⟨m, hm, rfl⟩ | h
  · left
    refine ⟨m, hm, rfl, ?_, ?_⟩
    · rw [if_neg (nI_pos (by omega)), if_neg (nI_ge hm (by omega))]
    · rw [q_inT (by rw [show (0 : Int64).toInt = 0 by decide, q_m1 (by omega), q_ti (by omega)]; omega)]
      rfl
  · right
    have h2 := q_out (by omega) h
    refine ⟨?_, ?_⟩
    · by_cases c : x < 0
      · rw [if_pos c]
      · rw [if_neg c, if_pos]
        rcases h with h | h
        · exact absurd h c
        · exact h
    · rw [q_inF (by rw [show (0 : Int64).toInt = 0 by decide, q_m1 (by omega)]; omega)]
      rfl
theorem k_lamp {n g : zS} {L : Nat} (hL : L ≤ 16) (hn : n 9 0 = nI L) (hg : g 2 0 = nI L) (x : Int32) : (∃ l : Nat, l < L ∧ x = nI l ∧ f_X2_hasLamp n x = some 1 ∧ f_X4_noLamp g x = some 0) ∨ (f_X2_hasLamp n x = some 0 ∧ f_X4_noLamp g x = some 1) := by
  unfold f_X2_hasLamp f_X4_noLamp
  rw [hn, hg]
  rcases q_ix x L (by omega) with ⟨m, hm, rfl⟩ | h
  · left
    refine ⟨m, hm, rfl, ?_, ?_⟩
    · rw [if_neg (nI_pos (by omega)), if_neg (nI_ge hm (by omega))]
    · rw [q_inT (by rw [show (0 : Int64).toInt = 0 by decide, q_m1 (by omega), q_ti (by omega)]; omega)]
      rfl
  · right
    have h2 := q_out (by omega) h
    refine ⟨?_, ?_⟩
    · by_cases c : x < 0
      · rw [if_pos c]
      · rw [if_neg c, if_pos]
        rcases h with h | h
        · exact absurd h c
        · exact h
    · rw [q_inF (by rw [show (0 : Int64).toInt = 0 by decide, q_m1 (by omega)]; omega)]
      rfl
theorem k_stands {n g : zS} {M : Nat} (hM : M ≤ 4) (hn : n 8 0 = nI M) (hg : g 1 0 = nI M) : (0 < M ∧ f_X2_stands n = some 1 ∧ ¬ g 1 0 = 0) ∨ (M = 0 ∧ f_X2_stands n = some 0 ∧ g 1 0 = 0) := by
  unfold f_X2_stands
  rw [hn, hg]
  rcases Nat.eq_zero_or_pos M with h | h
  · right
    subst h
    exact ⟨rfl, rfl, rfl⟩
  · left
    refine ⟨h, ?_, nI_ne0 h (by omega)⟩
    rw [if_neg (nI_nle h (by omega))]
/-- the relation, when only what the reference keeps for a while is another -/
theorem zRel_g {o : zS} {s : zS4} {n t r g g' : zS} (h : zRel o s n t r g) (e : ∀ k, (k < 10 ∨ (21 ≤ k ∧ k ≤ 24) ∨ (26 ≤ k ∧ k ≤ 28) ∨ k = 30) → g' k = g k) : zRel o s n t r g' := by
  have e0 := e 0 (by omega)
  have e1 := e 1 (by omega)
  have e2 := e 2 (by omega)
  have e3 := e 3 (by omega)
  have e4 := e 4 (by omega)
  have e5 := e 5 (by omega)
  have e6 := e 6 (by omega)
  have e7 := e 7 (by omega)
  have e8 := e 8 (by omega)
  have e9 := e 9 (by omega)
  have e21 := e 21 (by omega)
  have e22 := e 22 (by omega)
  have e23 := e 23 (by omega)
  have e24 := e 24 (by omega)
  have e26 := e 26 (by omega)
  have e27 := e 27 (by omega)
  have e28 := e 28 (by omega)
  have e30 := e 30 (by omega)
  simpa only [zRel, zSh, zSh1, zMod, zRd, e0, e1, e2, e3, e4, e5, e6, e7, e8, e9, e21, e22, e23, e24, e26, e27, e28, e30] using h
theorem zRel_t {o : zS} {s : zS4} {n t r g t' : zS} (h : zRel o s n t r g) (e : zB4 t') : zRel o s n t' r g := by
  obtain ⟨h1, h2, h3, h4, h5⟩ := h
  exact ⟨h1, h2, h3, e, h5⟩
/-- a fault's number -/
theorem zRel_f {o : zS} {s : zS4} {n t r g : zS} (h : zRel o s n t r g) (v : Int32) : zRel (va_up o 6 (fun _ => v)) s n t r (va_up g 0 (fun _ => v)) := by
  obtain ⟨h1, h2, h3, h4, h5, h6⟩ := h
  exact ⟨h1, rfl, h3, h4, h5, h6⟩
theorem zRel_f2 {o : zS} {s : zS4} {n t r g : zS} (h : zRel o s n t r g) (v w : Int32) : zRel (va_up (va_up o 6 (fun _ => w)) 6 (fun _ => v)) s n t r (va_up g 0 (fun _ => v)) := by
  obtain ⟨h1, h2, h3, h4, h5, h6⟩ := h
  exact ⟨h1, rfl, h3, h4, h5, h6⟩
theorem p_trace {o : zS} {s : zS4} {n : zS} {t : zS} {r : zS} {g : zS} (h : zRel o s n t r g) : ∃ (r0 : Int32), f_X3_trace o = some r0 ∧ f_X4_trace g = some r0 ∧ zRel o s n t r g :=
  ⟨o 5 0, rfl, by unfold f_X4_trace; rw [h.1], h⟩
theorem p_fault {o : zS} {s : zS4} {n : zS} {t : zS} {r : zS} {g : zS} (h : zRel o s n t r g) : ∃ (r0 : Int32), f_X3_fault o = some r0 ∧ f_X4_fault g = some r0 ∧ zRel o s n t r g :=
  ⟨o 6 0, rfl, by unfold f_X4_fault; rw [h.2.1], h⟩
