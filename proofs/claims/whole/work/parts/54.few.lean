theorem i20 : ¬ (2 : Int32) = 0 := by decide
theorem i21 : ¬ (2 : Int32) = 1 := by decide
theorem i12 : ¬ (1 : Int32) = 2 := by decide
theorem i02 : ¬ (0 : Int32) = 2 := by decide
theorem i01 : ¬ (0 : Int32) = 1 := by decide
theorem zL16 {M L C : Nat} {F Z K dd V hm : Nat → Nat} (h : zDat M L C F Z K dd V hm) : ∀ m, m ≤ M → F m ≤ 4 * m ∧ F m ≤ L := by
  obtain ⟨h1, h2, h3, h4, -⟩ := h
  have up : ∀ d m, m + d = M → F m ≤ F M := by
    intro d
    induction d with
    | zero => intro m e; rw [show m = M by omega]; exact Nat.le_refl _
    | succ d ih =>
      intro m e
      have := ih (m + 1) (by omega)
      have := (h3 m (by omega)).1
      omega
  intro m
  induction m with
  | zero => intro _; rw [h2]; exact ⟨by omega, by omega⟩
  | succ m ih =>
    intro hm
    obtain ⟨e1, -, e3, -⟩ := h3 m (by omega)
    have := ih (by omega)
    exact ⟨by omega, by rw [h4]; exact up (M - (m + 1)) (m + 1) (by omega)⟩
theorem zDat.l16 {M L C : Nat} {F Z K dd V hm : Nat → Nat} (h : zDat M L C F Z K dd V hm) : L ≤ 16 := by
  have := (zL16 h M (Nat.le_refl _)).1
  obtain ⟨h1, -, -, h4, -⟩ := h
  omega
theorem zDat.blk {M L C : Nat} {F Z K dd V hm : Nat → Nat} (h : zDat M L C F Z K dd V hm) {m : Nat} (hm' : m < M) : F m + Z m ≤ L := by
  have := (zL16 h (m + 1) hm').2
  have := (h.2.2.1 m hm').1
  omega
/-- each lamp has a home -/
theorem zDat.home {M L C : Nat} {F Z K dd V hm : Nat → Nat} (h : zDat M L C F Z K dd V hm) {l : Nat} (hl : l < L) : ∃ m j, m < M ∧ j < Z m ∧ l = F m + j ∧ hm l = m := by
  obtain ⟨h1, h2, h3, h4, h5, -⟩ := h
  have key : ∀ q, q ≤ M → l < F q → ∃ m j, m < q ∧ j < Z m ∧ l = F m + j := by
    intro q
    induction q with
    | zero => intro _ hq; rw [h2] at hq; omega
    | succ q ih =>
      intro hq hl
      by_cases c : l < F q
      · obtain ⟨m, j, a, b, d⟩ := ih (by omega) c
        exact ⟨m, j, by omega, b, d⟩
      · have := (h3 q (by omega)).1
        exact ⟨q, l - F q, by omega, by omega, by omega⟩
  obtain ⟨m, j, a, b, d⟩ := key M (Nat.le_refl _) (by omega)
  exact ⟨m, j, a, b, d, by rw [d]; exact h5 m j a b⟩
theorem p_as {o : zS} {s : zS4} {n : zS} {t : zS} {r : zS} {g : zS} (h : zRel o s n t r g) (x1 x2 : Int32) : ∃ (r0 : Int32) (o' : zS) (g' : zS), f_X3_as o n x1 x2 = some (r0, o') ∧ f_X4_as g x1 x2 = some (r0, g') ∧ zRel o' s n t r g' := by
  obtain ⟨M, L, C, F, Z, K, dd, V, hm, q, ru, rl, rz, hD, hW, hM, hR⟩ := h.2.2.2.2.2
  unfold f_X3_as f_X4_as
  rw [q_lt]
  rcases k_mod hD.1 hW.1 hM.1 x1 with ⟨m, hm', rfl, hx, hm2⟩ | ⟨hx, hm2⟩
  · have hm4 : m < 4 := Nat.lt_of_lt_of_le hm' hD.1
    rw [hx, hm2, q_b1, q_b1, if_neg i10, if_pos i00]
    rcases q_rng x2 0 2 (by decide) with ⟨j, -, hj, rfl⟩ | hj
    · rw [q_inT (by rw [show (0 : Int64).toInt = 0 by decide, show (2 : Int64).toInt = 2 by decide, q_ti (by omega)]; omega), q_b1, if_neg i10, if_neg (nI_pos (by omega)), if_pos (show nI j ≤ 2 from nI_le hj (by decide)), q_rd hm4 (by decide), q_rd hm4 (by decide), (hW.2.2.2.1 m hm').1, (hM.2.2.2.1 m hm').1]
      by_cases c : nI (K m) < nI j
      · rw [if_pos c, if_pos c]
        exact ⟨_, _, _, rfl, rfl, zRel_f2 h 2 0⟩
      · rw [if_neg c, if_neg c]
        exact ⟨_, _, _, rfl, rfl, zRel_f h 0⟩
    · rw [q_inF (by rw [show (0 : Int64).toInt = 0 by decide, show (2 : Int64).toInt = 2 by decide]; omega), q_b1, if_pos i00]
      by_cases c : x2 < 0
      · rw [if_pos c]
        exact ⟨_, _, _, rfl, rfl, zRel_f h 0⟩
      · rw [if_neg c, if_neg (by rw [q_le x2 2 (by decide)]; rw [q_l x2 0 (by decide)] at c; omega)]
        exact ⟨_, _, _, rfl, rfl, zRel_f h 0⟩
  · rw [hx, hm2, q_b1, q_b1, if_pos i00, if_neg i10]
    exact ⟨_, _, _, rfl, rfl, zRel_f h 0⟩
/-- a trace -/
theorem zRel_tr {o : zS} {s : zS4} {n t r g : zS} (h : zRel o s n t r g) (v : Int32) : zRel (va_up o 5 (fun _ => 31 * (o 5 0) + v)) s n t r (va_up g 30 (fun _ => 31 * (g 30 0) + v)) := by
  obtain ⟨h1, h2, h3, h4, h5, h6⟩ := h
  exact ⟨by show 31 * (o 5 0) + v = 31 * (g 30 0) + v; rw [h1], h2, h3, h4, h5, h6⟩
theorem p_tell {o : zS} {s : zS4} {n : zS} {t : zS} {r : zS} {g : zS} (h : zRel o s n t r g) (x1 : Int32) : ∃ (r0 : Int32) (o' : zS) (g' : zS), f_X3_tell o n x1 = some (r0, o') ∧ f_X4_tell g x1 = some (r0, g') ∧ zRel o' s n t r g' := by
  obtain ⟨M, L, C, F, Z, K, dd, V, hm, q, ru, rl, rz, hD, hW, hM, hR⟩ := h.2.2.2.2.2
  unfold f_X3_tell f_X4_tell
  rcases k_mod hD.1 hW.1 hM.1 x1 with ⟨m, hm', rfl, hx, hm2⟩ | ⟨hx, hm2⟩
  · have hm4 : m < 4 := Nat.lt_of_lt_of_le hm' hD.1
    obtain ⟨a1, a2, a3, a4⟩ := hW.2.2.2.1 m hm'
    obtain ⟨b1, b2, b3, b4⟩ := hM.2.2.2.1 m hm'
    have hk := (hD.2.2.1 m hm').2.2.2.1
    rw [hx, hm2, q_b1, q_b1, if_neg i10, if_pos i00, q_rd hm4 (by decide), q_rd hm4 (by decide), a1, b1]
    have hpl : ∀ o' : zS, f_X3_tellPlain o' n (nI m) = some (nI (Z m), va_up o' 5 (fun _ => 31 * (o' 5 0) + 1)) := by
      intro o'
      unfold f_X3_tellPlain f_X3_leaveTrace
      rw [q_lt, q_b1, q_rd hm4 (by decide), a3]
    have hh : ∀ o' : zS, f_X3_tellHalved o' n (nI m) = some (nI (Z m) + 100, va_up (va_up o' 5 (fun _ => 31 * (o' 5 0) + 2)) 5 (fun _ => 31 * ((va_up o' 5 (fun _ => 31 * (o' 5 0) + 2)) 5 0) + 1)) := by
      intro o'
      unfold f_X3_tellHalved f_X3_leaveTrace
      rw [q_lt, q_b1, hpl, q_b2]
    have hj : ∀ (v : Int32) (g' : zS), g' 6 m = nI (Z m) → f_X4_tell_J51 (nI m) v g' = if v = 0 then some (nI (Z m), g') else if v = 1 then some (nI (Z m) + 100, g') else some (2 * nI (Z m) + 100, g') := by
      intro v g' e
      unfold f_X4_tell_J51
      rw [q_rd hm4 (by decide), e]
    rcases (show K m = 0 ∨ K m = 1 ∨ K m = 2 by omega) with e | e | e
    · rw [e, show nI 0 = (0 : Int32) from rfl, if_neg i01, if_neg i02, if_neg i02, hpl, q_b2]
      unfold f_X4_tell_J27 f_X4_tell_J36 f_X4_traced
      rw [if_pos (by decide), q_lt, q_b1, if_neg i02, hj, if_pos i00]
      · exact ⟨_, _, _, rfl, rfl, zRel_tr h 1⟩
      · exact b3
    · rw [e, show nI 1 = (1 : Int32) from rfl, if_pos rfl, if_neg i12, hh, q_b2]
      unfold f_X4_tell_J27 f_X4_tell_J36 f_X4_traced
      rw [if_neg (by decide), q_lt, q_b1, q_lt, q_b1, if_neg i12, hj, if_neg i10, if_pos rfl]
      · exact ⟨_, _, _, rfl, rfl, zRel_tr (zRel_tr h 2) 1⟩
      · exact b3
    · rw [e, show nI 2 = (2 : Int32) from rfl, if_neg i21, if_pos rfl, if_pos rfl]
      unfold f_X3_tellBright f_X3_leaveTrace
      rw [q_lt, q_b1, hh, q_b2, hpl, q_b2, q_b2]
      unfold f_X4_tell_J27 f_X4_tell_J36 f_X4_traced
      rw [q_lt, q_b1, if_neg (by decide), q_lt, q_b1, q_lt, q_b1, if_pos rfl, q_lt, q_b1, hj, if_neg i20, if_neg i21]
      rotate_left
      · exact b3
      refine ⟨_, _, _, rfl, ?_, zRel_tr (zRel_tr (zRel_tr (zRel_tr h 3) 2) 1) 1⟩
      congr 2
      rw [show (2 : Int32) = nI 2 from rfl, show (100 : Int32) = nI 100 from rfl, pk_mul, nI_add, nI_add, nI_add]
      congr 1
      omega
  · rw [hx, hm2, q_b1, q_b1, if_pos i00, if_neg i10]
    exact ⟨_, _, _, rfl, rfl, h⟩
