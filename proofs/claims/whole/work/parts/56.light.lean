/-- the light of a lamp -/
def zlt (K dd V hm : Nat → Nat) (l : Nat) : Nat := if dd (hm l) = 1 then 0 else zlby (K (hm l)) (V l)
theorem x_lightBy {k v : Nat} (hk : k ≤ 2) (hv : v ≤ 9) : f_X3_lightBy (nI k) (nI v) = some (nI (zlby k v)) ∧ f_X4_lightBy (nI k) (nI v) = some (nI (zlby k v)) ∧ zlby k v ≤ 13 := by
  have : ∀ k : Fin 3, ∀ v : Fin 10, f_X3_lightBy (nI k.val) (nI v.val) = some (nI (zlby k.val v.val)) ∧ f_X4_lightBy (nI k.val) (nI v.val) = some (nI (zlby k.val v.val)) ∧ zlby k.val v.val ≤ 13 := by decide
  exact this ⟨k, by omega⟩ ⟨v, by omega⟩
theorem zlt_le {M L C : Nat} {F Z K dd V hm : Nat → Nat} (h : zDat M L C F Z K dd V hm) {l : Nat} (hl : l < L) : zlt K dd V hm l ≤ 13 := by
  obtain ⟨m, j, h1, h2, h3, h4⟩ := h.home hl
  unfold zlt
  by_cases c : dd (hm l) = 1
  · rw [if_pos c]; omega
  · rw [if_neg c, h4]
    exact (x_lightBy (h.2.2.1 m h1).2.2.2.1 (h.2.2.2.2.2.1 l hl)).2.2
theorem x_light {n : zS} {M L C : Nat} {F Z K dd V hm : Nat → Nat} (h : zDat M L C F Z K dd V hm) (hW : zWal n M L C F Z K dd V hm) {l : Nat} (hl : l < L) : f_X2_lightOf n (nI l) = some (nI (zlt K dd V hm l)) := by
  obtain ⟨m, j, h1, h2, h3, h4⟩ := h.home hl
  have hL := h.l16
  have hm4 : m < 4 := Nat.lt_of_lt_of_le h1 h.1
  obtain ⟨a1, a2, a3, a4⟩ := hW.2.2.2.1 m h1
  obtain ⟨b1, b2⟩ := hW.2.2.2.2.1 l hl
  obtain ⟨-, -, -, d1, d2⟩ := h.2.2.1 m h1
  unfold f_X2_lightOf zlt
  rw [q_rd (show l < 16 by omega) (by decide), b2, h4, q_rd hm4 (by decide), a4]
  rcases (show dd m = 0 ∨ dd m = 1 by omega) with e | e
  · rw [e, if_pos (show nI 0 = (0 : Int32) from rfl), q_rd hm4 (by decide), a1, q_rd (show l < 16 by omega) (by decide), b1, (x_lightBy d1 (h.2.2.2.2.2.1 l hl)).1, q_b1, if_neg (by omega)]
  · rw [e, if_neg (show ¬ nI 1 = (0 : Int32) by decide), if_pos rfl]
    rfl
theorem m_light {g : zS} {M L C : Nat} {F Z K dd V hm : Nat → Nat} (h : zDat M L C F Z K dd V hm) (hW : zMod g M L C F Z K dd V hm) {l : Nat} (hl : l < L) : f_X4_light g (nI l) = some (nI (zlt K dd V hm l)) := by
  obtain ⟨m, j, h1, h2, h3, h4⟩ := h.home hl
  have hL := h.l16
  have hm4 : m < 4 := Nat.lt_of_lt_of_le h1 h.1
  obtain ⟨a1, a2, a3, a4⟩ := hW.2.2.2.1 m h1
  obtain ⟨b1, b2⟩ := hW.2.2.2.2 l hl
  obtain ⟨-, -, -, d1, d2⟩ := h.2.2.1 m h1
  unfold f_X4_light zlt
  rw [q_rd (show l < 16 by omega) (by decide), b2, h4, q_rd hm4 (by decide), a4]
  rcases (show dd m = 0 ∨ dd m = 1 by omega) with e | e
  · rw [e, if_neg (show ¬ nI 0 = (1 : Int32) by decide), q_rd hm4 (by decide), a1, q_rd (show l < 16 by omega) (by decide), b1, (x_lightBy d1 (h.2.2.2.2.2.1 l hl)).2.1, q_b1, if_neg (by omega)]
  · rw [e, if_pos (show nI 1 = (1 : Int32) from rfl), if_pos rfl]
    rfl
/-- all lights together -/
def zsumI (f : Nat → Nat) (L : Nat) : Int32 := zi (fun l a => a + nI (f l)) 0 L 0
theorem x_lightTogether {n : zS} {M L C : Nat} {F Z K dd V hm : Nat → Nat} (h : zDat M L C F Z K dd V hm) (hW : zWal n M L C F Z K dd V hm) : f_X2_lightTogether n = some (zsumI (zlt K dd V hm) L) := by
  have hL := h.l16
  unfold f_X2_lightTogether
  rw [show (f_X2_lightTogether_L4 n 100 0 0) = f_X2_lightTogether_L4 n 100 0 (nI 0) from rfl,
    zl_up (fun k i (a : Int32) => f_X2_lightTogether_L4 n k a (nI i)) L (fun l a => a + nI (zlt K dd V hm l)) (fun a => a)
      (fun k a => by
        show f_X2_lightTogether_L4 n (k + 1) a (nI L) = some a
        rw [f_X2_lightTogether_L4, hW.2.1, if_pos (nI_le (Nat.le_refl L) (by omega))])
      (fun k i a hi => by
        show f_X2_lightTogether_L4 n (k + 1) a (nI i) = f_X2_lightTogether_L4 n k _ (nI (i + 1))
        rw [f_X2_lightTogether_L4, hW.2.1, if_neg (nI_ge hi (by omega)), x_light h hW hi, q_b1, nI_1])
      L 0 0 100 (by omega) (by omega)]
  rfl
theorem m_lightOfAll {g : zS} {M L C : Nat} {F Z K dd V hm : Nat → Nat} (h : zDat M L C F Z K dd V hm) (hW : zMod g M L C F Z K dd V hm) : f_X4_lightOfAll g = some (zsumI (zlt K dd V hm) L) := by
  have hL := h.l16
  unfold f_X4_lightOfAll
  rw [show (f_X4_lightOfAll_L4 g 100 0 0) = f_X4_lightOfAll_L4 g 100 0 (nI 0) from rfl,
    zl_up (fun k i (a : Int32) => f_X4_lightOfAll_L4 g k a (nI i)) L (fun l a => a + nI (zlt K dd V hm l)) (fun a => a)
      (fun k a => by
        show f_X4_lightOfAll_L4 g (k + 1) a (nI L) = some a
        rw [f_X4_lightOfAll_L4, hW.2.1, if_pos (nI_le (Nat.le_refl L) (by omega))])
      (fun k i a hi => by
        show f_X4_lightOfAll_L4 g (k + 1) a (nI i) = f_X4_lightOfAll_L4 g k _ (nI (i + 1))
        rw [f_X4_lightOfAll_L4, hW.2.1, if_neg (nI_ge hi (by omega)), m_light h hW hi, q_b1, nI_1])
      L 0 0 100 (by omega) (by omega)]
  rfl
theorem x_dead {n : zS} {M L C : Nat} {F Z K dd V hm : Nat → Nat} (h : zDat M L C F Z K dd V hm) (hW : zWal n M L C F Z K dd V hm) : f_X2_deadModules n = some (zsumI dd M) := by
  have hM := h.1
  unfold f_X2_deadModules
  rw [show (f_X2_deadModules_L4 n 100 0 0) = f_X2_deadModules_L4 n 100 0 (nI 0) from rfl,
    zl_up (fun k i (a : Int32) => f_X2_deadModules_L4 n k a (nI i)) M (fun l a => a + nI (dd l)) (fun a => a)
      (fun k a => by
        show f_X2_deadModules_L4 n (k + 1) a (nI M) = some a
        rw [f_X2_deadModules_L4, hW.1, if_pos (nI_le (Nat.le_refl M) (by omega))])
      (fun k i a hi => by
        show f_X2_deadModules_L4 n (k + 1) a (nI i) = f_X2_deadModules_L4 n k _ (nI (i + 1))
        rw [f_X2_deadModules_L4, hW.1, if_neg (nI_ge hi (by omega)), q_rd (show i < 4 by omega) (by decide), (hW.2.2.2.1 i hi).2.2.2, nI_1]
        rcases (show dd i = 0 ∨ dd i = 1 by have := (h.2.2.1 i hi).2.2.2.2; omega) with e | e
        · rw [e, if_pos (show nI 0 = (0 : Int32) from rfl)]; rfl
        · rw [e, if_neg (by decide)]; rfl)
      M 0 0 100 (by omega) (by omega)]
  rfl
theorem m_dead {g : zS} {M L C : Nat} {F Z K dd V hm : Nat → Nat} (h : zDat M L C F Z K dd V hm) (hW : zMod g M L C F Z K dd V hm) : f_X4_many_L4 g 100 0 0 = some (zsumI dd M) := by
  have hM := h.1
  rw [show (f_X4_many_L4 g 100 0 0) = f_X4_many_L4 g 100 0 (nI 0) from rfl,
    zl_up (fun k i (a : Int32) => f_X4_many_L4 g k a (nI i)) M (fun l a => a + nI (dd l)) (fun a => a)
      (fun k a => by
        show f_X4_many_L4 g (k + 1) a (nI M) = some a
        rw [f_X4_many_L4, hW.1, if_pos (nI_le (Nat.le_refl M) (by omega))])
      (fun k i a hi => by
        show f_X4_many_L4 g (k + 1) a (nI i) = f_X4_many_L4 g k _ (nI (i + 1))
        rw [f_X4_many_L4, hW.1, if_neg (nI_ge hi (by omega)), q_rd (show i < 4 by omega) (by decide), (hW.2.2.2.1 i hi).2.2.2, nI_1])
      M 0 0 100 (by omega) (by omega)]
  rfl
theorem p_many {o : zS} {s : zS4} {n : zS} {t : zS} {r : zS} {g : zS} (h : zRel o s n t r g) (x1 : Int32) : ∃ (r0 : Int32), f_X3_many n r x1 = some r0 ∧ f_X4_many g x1 = some r0 ∧ zRel o s n t r g := by
  obtain ⟨e1, e2, e3, e4, e5, M, L, C, F, Z, K, dd, V, hm, q, ru, rl, rz, hD, hW, hM, hq, hr, hg, hi⟩ := id h
  unfold f_X3_many f_X4_many
  rw [m_dead hD hM, q_b1, x_dead hD hW, x_lightTogether hD hW, m_lightOfAll hD hM, hW.1, hM.1, hW.2.1, hM.2.1, hW.2.2.1, hM.2.2.1, hr, hg, q_b1, q_b1]
  by_cases c0 : x1 = 0
  · rw [if_pos c0]; exact ⟨_, rfl, rfl, h⟩
  rw [if_neg c0]
  by_cases c1 : x1 = 1
  · rw [if_pos c1]; exact ⟨_, rfl, rfl, h⟩
  rw [if_neg c1]
  by_cases c2 : x1 = 2
  · rw [if_pos c2]; exact ⟨_, rfl, rfl, h⟩
  rw [if_neg c2]
  by_cases c3 : x1 = 3
  · rw [if_pos c3]; exact ⟨_, rfl, rfl, h⟩
  rw [if_neg c3]
  by_cases c4 : x1 = 4
  · rw [if_pos c4]; exact ⟨_, rfl, rfl, h⟩
  rw [if_neg c4]
  by_cases c5 : x1 = 5
  · rw [if_pos c5]; exact ⟨_, rfl, rfl, h⟩
  rw [if_neg c5]
  exact ⟨_, rfl, rfl, h⟩
theorem x_place {n : zS} {M L C : Nat} {F Z K dd V hm : Nat → Nat} (h : zDat M L C F Z K dd V hm) (hW : zWal n M L C F Z K dd V hm) {m : Nat} (hm' : m < M) : f_X2_placeAmongLiving_L16 n (nI m) 100 0 0 = some (zi (fun j a => a + (1 - nI (dd j))) 0 m 0) := by
  have hM := h.1
  rw [show (f_X2_placeAmongLiving_L16 n (nI m) 100 0 0) = f_X2_placeAmongLiving_L16 n (nI m) 100 0 (nI 0) from rfl,
    zl_up (fun k i (a : Int32) => f_X2_placeAmongLiving_L16 n (nI m) k a (nI i)) m (fun j a => a + (1 - nI (dd j))) (fun a => a)
      (fun k a => by
        show f_X2_placeAmongLiving_L16 n (nI m) (k + 1) a (nI m) = some a
        rw [f_X2_placeAmongLiving_L16, if_pos (nI_le (Nat.le_refl m) (by omega))])
      (fun k i a hi => by
        show f_X2_placeAmongLiving_L16 n (nI m) (k + 1) a (nI i) = f_X2_placeAmongLiving_L16 n (nI m) k _ (nI (i + 1))
        rw [f_X2_placeAmongLiving_L16, if_neg (nI_ge hi (by omega)), q_rd (show i < 4 by omega) (by decide), (hW.2.2.2.1 i (by omega)).2.2.2, nI_1]
        rcases (show dd i = 0 ∨ dd i = 1 by have := (h.2.2.1 i (by omega)).2.2.2.2; omega) with e | e
        · rw [e, if_pos (show nI 0 = (0 : Int32) from rfl)]; rfl
        · rw [e, if_neg (by decide)]; rfl)
      m 0 0 100 (by omega) (by omega)]
theorem m_place {g : zS} {M L C : Nat} {F Z K dd V hm : Nat → Nat} (h : zDat M L C F Z K dd V hm) (hW : zMod g M L C F Z K dd V hm) {m : Nat} (hm' : m < M) : f_X4_ofModule_L15 g (nI m) 100 0 0 = some (zi (fun j a => a + (1 - nI (dd j))) 0 m 0) := by
  have hM := h.1
  rw [show (f_X4_ofModule_L15 g (nI m) 100 0 0) = f_X4_ofModule_L15 g (nI m) 100 0 (nI 0) from rfl,
    zl_up (fun k i (a : Int32) => f_X4_ofModule_L15 g (nI m) k a (nI i)) m (fun j a => a + (1 - nI (dd j))) (fun a => a)
      (fun k a => by
        show f_X4_ofModule_L15 g (nI m) (k + 1) a (nI m) = some a
        rw [f_X4_ofModule_L15, if_pos (nI_le (Nat.le_refl m) (by omega))])
      (fun k i a hi => by
        show f_X4_ofModule_L15 g (nI m) (k + 1) a (nI i) = f_X4_ofModule_L15 g (nI m) k _ (nI (i + 1))
        rw [f_X4_ofModule_L15, if_neg (nI_ge hi (by omega)), q_rd (show i < 4 by omega) (by decide), (hW.2.2.2.1 i (by omega)).2.2.2, nI_1])
      m 0 0 100 (by omega) (by omega)]
theorem p_ofModule {o : zS} {s : zS4} {n : zS} {t : zS} {r : zS} {g : zS} (h : zRel o s n t r g) (x1 x2 : Int32) : ∃ (r0 : Int32), f_X3_ofModule n x1 x2 = some r0 ∧ f_X4_ofModule g x1 x2 = some r0 ∧ zRel o s n t r g := by
  obtain ⟨e1, e2, e3, e4, e5, M, L, C, F, Z, K, dd, V, hm, q, ru, rl, rz, hD, hW, hM, hR⟩ := id h
  unfold f_X3_ofModule f_X4_ofModule
  rcases k_mod hD.1 hW.1 hM.1 x1 with ⟨m, hm', rfl, hx, hm2⟩ | ⟨hx, hm2⟩
  · have hm4 : m < 4 := Nat.lt_of_lt_of_le hm' hD.1
    have hd := (hD.2.2.1 m hm').2.2.2.2
    obtain ⟨a1, a2, a3, a4⟩ := hW.2.2.2.1 m hm'
    obtain ⟨b1, b2, b3, b4⟩ := hM.2.2.2.1 m hm'
    rw [hx, hm2, q_b1, q_b1, if_neg i10, if_pos i00, m_place hD hM hm', q_b1]
    unfold f_X2_placeAmongLiving
    rw [x_place hD hW hm', q_b1]
    simp only [q_rd hm4 (show 4 < 2 ^ 31 by decide)]
    rw [a1, a2, a3, a4, b1, b2, b3, b4]
    by_cases c0 : x2 = 0
    · rw [if_pos c0, if_pos c0]; exact ⟨_, rfl, rfl, h⟩
    rw [if_neg c0, if_neg c0]
    by_cases c1 : x2 = 1
    · rw [if_pos c1, if_pos c1]; exact ⟨_, rfl, rfl, h⟩
    rw [if_neg c1, if_neg c1]
    by_cases c2 : x2 = 2
    · rw [if_pos c2, if_pos c2]; exact ⟨_, rfl, rfl, h⟩
    rw [if_neg c2, if_neg c2]
    rcases (show dd m = 0 ∨ dd m = 1 by omega) with e | e
    · rw [e, show nI 0 = (0 : Int32) from rfl, if_pos i00, if_neg i01]
      by_cases c3 : x2 = 3
      · rw [if_pos c3, if_pos c3]; exact ⟨_, rfl, rfl, h⟩
      rw [if_neg c3, if_neg c3]
      by_cases c4 : x2 = 4
      · rw [if_pos c4, if_pos c4]; exact ⟨_, rfl, rfl, h⟩
      rw [if_neg c4, if_neg c4]
      exact ⟨_, rfl, rfl, h⟩
    · rw [e, show nI 1 = (1 : Int32) from rfl, if_neg i10, if_pos rfl]
      by_cases c3 : x2 = 3
      · rw [if_pos c3, if_pos c3]; exact ⟨_, rfl, rfl, h⟩
      rw [if_neg c3, if_neg c3]
      by_cases c4 : x2 = 4
      · rw [if_pos c4, if_pos c4]; exact ⟨_, rfl, rfl, h⟩
      rw [if_neg c4, if_neg c4]
      exact ⟨_, rfl, rfl, h⟩
  · rw [hx, hm2, q_b1, q_b1, if_pos i00, if_neg i10]
    exact ⟨_, rfl, rfl, h⟩
