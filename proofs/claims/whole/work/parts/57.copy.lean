theorem x_levelsTogether {n : zS} {M L C : Nat} {F Z K dd V hm : Nat → Nat} (h : zDat M L C F Z K dd V hm) (hW : zWal n M L C F Z K dd V hm) {m : Nat} (hm' : m < M) : f_X2_levelsTogether n (nI m) = some (zi (fun j a => a + nI (V (F m + j))) 0 (Z m) 0) := by
  have hL := h.l16
  have hb := h.blk hm'
  have hm4 : m < 4 := Nat.lt_of_lt_of_le hm' h.1
  obtain ⟨a1, a2, a3, a4⟩ := hW.2.2.2.1 m hm'
  unfold f_X2_levelsTogether
  rw [q_rd hm4 (by decide), a2, show (f_X2_levelsTogether_L9 n (nI m) 100 0 (nI (F m))) = f_X2_levelsTogether_L9 n (nI m) 100 0 (nI (F m + 0)) from rfl,
    zl_up (fun k i (a : Int32) => f_X2_levelsTogether_L9 n (nI m) k a (nI (F m + i))) (Z m) (fun j a => a + nI (V (F m + j))) (fun a => a)
      (fun k a => by
        show f_X2_levelsTogether_L9 n (nI m) (k + 1) a (nI (F m + Z m)) = some a
        rw [f_X2_levelsTogether_L9, q_rd hm4 (by decide), a2, q_rd hm4 (by decide), a3, nI_add, if_pos (nI_le (Nat.le_refl _) (by omega))])
      (fun k i a hi => by
        show f_X2_levelsTogether_L9 n (nI m) (k + 1) a (nI (F m + i)) = f_X2_levelsTogether_L9 n (nI m) k _ (nI (F m + (i + 1)))
        rw [f_X2_levelsTogether_L9, q_rd hm4 (by decide), a2, q_rd hm4 (by decide), a3, nI_add, if_neg (nI_ge (by omega) (by omega)), q_rd (show F m + i < 16 by omega) (by decide), (hW.2.2.2.2.1 _ (by omega)).1, nI_1]
        rfl)
      (Z m) 0 0 100 (by omega) (by have := (h.2.2.1 m hm').2.2.1; omega)]
  rfl
theorem m_levelsTogether {g : zS} {M L C : Nat} {F Z K dd V hm : Nat → Nat} (h : zDat M L C F Z K dd V hm) (hW : zMod g M L C F Z K dd V hm) {m : Nat} (hm' : m < M) : f_X4_switchOn_L33 g (nI m) 100 0 0 = some (zi (fun j a => a + nI (V (F m + j))) 0 (Z m) 0) := by
  have hL := h.l16
  have hb := h.blk hm'
  have hm4 : m < 4 := Nat.lt_of_lt_of_le hm' h.1
  obtain ⟨a1, a2, a3, a4⟩ := hW.2.2.2.1 m hm'
  have hz := (h.2.2.1 m hm').2.2.1
  rw [show (f_X4_switchOn_L33 g (nI m) 100 0 0) = f_X4_switchOn_L33 g (nI m) 100 0 (nI 0) from rfl,
    zl_up (fun k i (a : Int32) => f_X4_switchOn_L33 g (nI m) k a (nI i)) (Z m) (fun j a => a + nI (V (F m + j))) (fun a => a)
      (fun k a => by
        show f_X4_switchOn_L33 g (nI m) (k + 1) a (nI (Z m)) = some a
        rw [f_X4_switchOn_L33, q_rd hm4 (by decide), a3, if_pos (nI_le (Nat.le_refl _) (by omega))])
      (fun k i a hi => by
        show f_X4_switchOn_L33 g (nI m) (k + 1) a (nI i) = f_X4_switchOn_L33 g (nI m) k _ (nI (i + 1))
        rw [f_X4_switchOn_L33, q_rd hm4 (by decide), a3, if_neg (nI_ge (by omega) (by omega)), q_rd hm4 (by decide), a2, nI_add, q_rd (show F m + i < 16 by omega) (by decide), (hW.2.2.2.2 _ (by omega)).1, nI_1])
      (Z m) 0 0 100 (by omega) (by omega)]
theorem p_switchOn {o : zS} {s : zS4} {n : zS} {t : zS} {r : zS} {g : zS} (h : zRel o s n t r g) (x1 : Int32) : ∃ (r0 : Int32) (o' : zS) (g' : zS), f_X3_switchOn o n x1 = some (r0, o') ∧ f_X4_switchOn g x1 = some (r0, g') ∧ zRel o' s n t r g' := by
  obtain ⟨e1, e2, e3, e4, e5, M, L, C, F, Z, K, dd, V, hm, q, ru, rl, rz, hD, hW, hM, hR⟩ := id h
  unfold f_X3_switchOn f_X4_switchOn
  rcases k_mod hD.1 hW.1 hM.1 x1 with ⟨m, hm', rfl, hx, hm2⟩ | ⟨hx, hm2⟩
  · have hm4 : m < 4 := Nat.lt_of_lt_of_le hm' hD.1
    obtain ⟨a1, a2, a3, a4⟩ := hW.2.2.2.1 m hm'
    obtain ⟨b1, b2, b3, b4⟩ := hM.2.2.2.1 m hm'
    rw [hx, hm2, q_b1, q_b1, if_neg i10, if_pos i00, q_rd hm4 (by decide), q_rd hm4 (by decide), a1, b1]
    unfold f_X3_switchBright f_X3_switchLent f_X3_leaveTrace f_X4_traced
    have hg : ∀ v : Int32, f_X4_switchOn_L33 (va_up g 30 (fun _ => 31 * (g 30 0) + v)) (nI m) 100 0 0 = some (zi (fun j a => a + nI (V (F m + j))) 0 (Z m) 0) := fun v => m_levelsTogether hD (show zMod (va_up g 30 (fun _ => 31 * (g 30 0) + v)) M L C F Z K dd V hm from hM) hm'
    by_cases c : nI (K m) = 2
    · rw [if_pos c, if_pos c, q_lt, q_lt, q_b1, q_b1, hg, q_b1, q_rd hm4 (by decide), show (va_up g 30 (fun _ => 31 * (g 30 0) + 5)) 4 m = nI (K m) from b1, if_pos c]
      exact ⟨_, _, _, rfl, rfl, zRel_tr h 5⟩
    · rw [if_neg c, if_neg c, q_lt, q_lt, q_b1, q_b1, hg, q_b1, q_rd hm4 (by decide), show (va_up g 30 (fun _ => 31 * (g 30 0) + 4)) 4 m = nI (K m) from b1, if_neg c, x_levelsTogether hD hW hm']
      exact ⟨_, _, _, rfl, rfl, zRel_tr h 4⟩
  · rw [hx, hm2, q_b1, q_b1, if_pos i00, if_neg i10]
    exact ⟨_, _, _, rfl, rfl, h⟩
/-- beyond a row -/
theorem m_beyond (x y : Int32) {len : Nat} (hl : len ≤ 60) : f_X4_isBeyond x (Int32.toInt64 y) (nI len) = some (if 0 ≤ x.toInt ∧ 0 ≤ y.toInt ∧ x.toInt + y.toInt ≤ len then 0 else 1) := by
  have hx1 := Int32.le_toInt x
  have hx2 := Int32.toInt_lt x
  have hy1 := Int32.le_toInt y
  have hy2 := Int32.toInt_lt y
  have hs : (Int32.toInt64 x + Int32.toInt64 y).toInt = x.toInt + y.toInt := by
    rw [Int64.toInt_add, Int32.toInt_toInt64, Int32.toInt_toInt64, Int.bmod_eq_of_le (by omega) (by omega)]
  have hn : (Int32.toInt64 (nI len)).toInt = (len : Int) := by rw [Int32.toInt_toInt64, q_ti (by omega)]
  unfold f_X4_isBeyond lg_cmp
  simp only [Int64.lt_iff_toInt_lt, hs, hn, Int32.toInt_toInt64, show (0 : Int64).toInt = 0 by decide]
  by_cases c : x < 0
  · rw [if_pos c, if_neg]
    rw [q_l x 0 (by decide)] at c
    omega
  · rw [if_neg c]
    rw [q_l x 0 (by decide)] at c
    by_cases c1 : 0 < y.toInt
    · rw [if_pos c1, if_neg (by decide)]
      by_cases c2 : (len : Int) < x.toInt + y.toInt
      · rw [if_pos c2, if_neg (by decide), if_neg (by omega)]
      · rw [if_neg c2]
        by_cases c3 : Int32.toInt64 x + Int32.toInt64 y = Int32.toInt64 (nI len)
        · rw [if_pos c3, if_pos (by decide), if_pos (by omega)]
        · rw [if_neg c3, if_pos (by decide), if_pos (by omega)]
    · rw [if_neg c1]
      by_cases c4 : Int32.toInt64 y = 0
      · have h0 : y.toInt = 0 := by rw [← Int32.toInt_toInt64, c4]; decide
        rw [if_pos c4, if_neg (by decide)]
        by_cases c2 : (len : Int) < x.toInt + y.toInt
        · rw [if_pos c2, if_neg (by decide), if_neg (by omega)]
        · rw [if_neg c2]
          by_cases c3 : Int32.toInt64 x + Int32.toInt64 y = Int32.toInt64 (nI len)
          · rw [if_pos c3, if_pos (by decide), if_pos (by omega)]
          · rw [if_neg c3, if_pos (by decide), if_pos (by omega)]
      · have h0 : ¬ y.toInt = 0 := fun q => c4 (Int64.toInt_inj.mp (by rw [Int32.toInt_toInt64, q]; decide))
        rw [if_neg c4, if_pos (by decide), if_neg (by omega)]
