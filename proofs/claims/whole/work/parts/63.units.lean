theorem zMod_g {g g' : zS} {M L C : Nat} {F Z K dd V hm : Nat → Nat} (h : zMod g M L C F Z K dd V hm) (e : ∀ c, c < 10 → g' c = g c) : zMod g' M L C F Z K dd V hm := by
  have e1 := e 1 (by omega)
  have e2 := e 2 (by omega)
  have e3 := e 3 (by omega)
  have e4 := e 4 (by omega)
  have e5 := e 5 (by omega)
  have e6 := e 6 (by omega)
  have e7 := e 7 (by omega)
  have e8 := e 8 (by omega)
  have e9 := e 9 (by omega)
  simpa only [zMod, e1, e2, e3, e4, e5, e6, e7, e8, e9] using h
theorem zWal_C {n n' : zS} {M L C C' : Nat} {F Z K dd V hm : Nat → Nat} (h : zWal n M L C F Z K dd V hm) (hf : ∀ t, t < 15 → n' 6 t = nI (zpl C' t) ∧ n' 7 t = nI (zsl C' t)) (h10 : n' 10 0 = nI C') (e : ∀ c, c ≠ 6 → c ≠ 7 → c ≠ 10 → n' c = n c) : zWal n' M L C' F Z K dd V hm := by
  have e0 := e 0 (by decide) (by decide) (by decide)
  have e1 := e 1 (by decide) (by decide) (by decide)
  have e2 := e 2 (by decide) (by decide) (by decide)
  have e3 := e 3 (by decide) (by decide) (by decide)
  have e4 := e 4 (by decide) (by decide) (by decide)
  have e5 := e 5 (by decide) (by decide) (by decide)
  have e8 := e 8 (by decide) (by decide) (by decide)
  have e9 := e 9 (by decide) (by decide) (by decide)
  obtain ⟨h1, h2, h3, h4, h5, h6⟩ := h
  exact ⟨by rw [e8]; exact h1, by rw [e9]; exact h2, h10, fun m hm => by rw [e0, e1, e2, e3]; exact h4 m hm, fun l hl => by rw [e4, e5]; exact h5 l hl, fun _ => hf⟩
theorem zMod_C {g : zS} {M L C C' : Nat} {F Z K dd V hm : Nat → Nat} (h : zMod g M L C F Z K dd V hm) : zMod (va_up g 3 (fun _ => nI C')) M L C' F Z K dd V hm := by
  obtain ⟨h1, h2, h3, h4, h5⟩ := h
  exact ⟨h1, h2, rfl, h4, h5⟩
theorem zB4_e {n n' : zS} (h : zB4 n) (e : n' 3 = n 3) : zB4 n' := fun i hi => by rw [e]; exact h i hi
theorem p_cut {o : zS} {s : zS4} {n : zS} {t : zS} {r : zS} {g : zS} (h : zRel o s n t r g) (x1 : Int32) : ∃ (r0 : Int32) (n' : zS) (g' : zS), f_X3_cut n x1 = some (r0, n') ∧ f_X4_cut g x1 = some (r0, g') ∧ zRel o s n' t r g' := by
  obtain ⟨e1, e2, e3, e4, e5, M, L, C, F, Z, K, dd, V, hm, q, ru, rl, rz, hD, hW, hM, hR⟩ := id h
  unfold f_X3_cut f_X4_cut
  rcases k_cut x1 with ⟨v, hv1, hv2, rfl, hx, hm2⟩ | ⟨hx, hm2⟩
  · rw [hx, hm2, q_b1, q_b1, if_neg i10, if_neg i10]
    rcases k_stands hD.1 hW.1 hM.1 with ⟨hp, hs1, hs2⟩ | ⟨hp, hs1, hs2⟩
    · obtain ⟨n', a1, a2, a3, a4⟩ := x_frame (n := n) (C := v) ⟨hv1, hv2⟩
      rw [hs1, q_b1, if_neg i10, if_neg hs2, a1, q_b1, q_lt, hW.2.2.1, hM.2.2.1]
      exact ⟨_, _, _, rfl, rfl, e1, e2, zB4_e e3 (a4 3 (by decide) (by decide) (by decide)), e4, e5, M, L, v, F, Z, K, dd, V, hm, q, ru, rl, rz, zDat_C hD hp ⟨hv1, hv2⟩, zWal_C hW a2 a3 a4, zMod_C hM, hR⟩
    · rw [hs1, q_b1, if_pos i00, if_pos hs2]
      exact ⟨_, _, _, rfl, rfl, h⟩
  · rw [hx, hm2, q_b1, q_b1, if_pos i00, if_pos i00]
    exact ⟨_, _, _, rfl, rfl, h⟩
theorem q_and1 (v : Int32) : v &&& 1 = 0 ∨ v &&& 1 = 1 := by
  obtain ⟨j, hj, e⟩ := pk_andE v (m := 1) 1 (by decide)
  rw [e]
  rcases (show j = 0 ∨ j = 1 by omega) with rfl | rfl
  · exact Or.inl rfl
  · exact Or.inr rfl
section ZU
variable {n g : zS} {M L C : Nat} {F Z K dd V hm : Nat → Nat}
/-- the units in which a lamp ghosts -/
def zgo (C : Nat) (F K dd V hm : Nat → Nat) (l : Nat) : Int32 := if l = F (hm l) then 0 else zgh C (zlt K dd V hm (l - 1)) (zlt K dd V hm l)
theorem zgo_l (h : zDat M L C F Z K dd V hm) {l : Nat} (hl : l < L) (c : ¬ l = F (hm l)) : 1 ≤ l := by
  obtain ⟨m, j, h1, h2, h3, h4⟩ := h.home hl
  rw [h4] at c
  omega
theorem x_ghost (h : zDat M L C F Z K dd V hm) (hW : zWal n M L C F Z K dd V hm) {l : Nat} (hl : l < L) : f_X2_ghostUnits n (nI l) = some (zgo C F K dd V hm l) := by
  obtain ⟨m, j, h1, h2, h3, h4⟩ := h.home hl
  have hL := h.l16
  have hm4 : m < 4 := Nat.lt_of_lt_of_le h1 h.1
  have hb := (zL16 h m (by omega)).2
  unfold f_X2_ghostUnits zgo
  rw [q_rd (show l < 16 by omega) (by decide), (hW.2.2.2.2.1 l hl).2, h4, q_rd hm4 (by decide), (hW.2.2.2.1 m h1).2.1]
  by_cases c : l = F m
  · rw [if_pos c, if_pos (by rw [c])]
  · have hl1 := zgo_l h hl (by rw [h4]; exact c)
    rw [if_neg c, if_neg (by rw [nI_eq (by omega) (by omega)]; exact c), show (1 : Int32) = nI 1 from rfl, pk_sub hl1, x_litUnits h hW (show l - 1 < L by omega), q_b1, x_litUnits h hW hl, q_b1]
    rfl
theorem m_ghost (h : zDat M L C F Z K dd V hm) (hW : zMod g M L C F Z K dd V hm) (hf : ∀ t, t < 15 → g 17 t = nI (zpl C t)) {l : Nat} (hl : l < L) : f_X4_ghostsOf g (nI l) = some (zgo C F K dd V hm l) := by
  obtain ⟨m, j, h1, h2, h3, h4⟩ := h.home hl
  have hL := h.l16
  have hC := (h.2.2.2.2.2.2.2 (h.pos hl)).2
  have hm4 : m < 4 := Nat.lt_of_lt_of_le h1 h.1
  have hb := (zL16 h m (by omega)).2
  unfold f_X4_ghostsOf zgo
  rw [q_rd (show l < 16 by omega) (by decide), (hW.2.2.2.2 l hl).2, h4, q_rd hm4 (by decide), (hW.2.2.2.1 m h1).2.1]
  by_cases c : l = F m
  · rw [if_pos c, if_pos (by rw [← c])]
  · have hl1 := zgo_l h hl (by rw [h4]; exact c)
    have z1 := zlt_le h (show l - 1 < L by omega)
    have z2 := zlt_le h hl
    rw [if_neg c, if_neg (by rw [nI_eq (by omega) (by omega)]; exact fun e => c e.symm), show (1 : Int32) = nI 1 from rfl, pk_sub hl1, m_litOf h hW hf (show l - 1 < L by omega), q_b1, m_litOf h hW hf hl, q_b1]
    exact congrArg some (zgh_t ⟨C, by omega⟩ ⟨zlt K dd V hm (l - 1), by omega⟩ ⟨zlt K dd V hm l, by omega⟩)
theorem x_ghostsIn (h : zDat M L C F Z K dd V hm) (hW : zWal n M L C F Z K dd V hm) (t : Nat) : f_X2_ghostsIn n (nI t) = some (zi (fun l a => a + ((zgo C F K dd V hm l >>> (nI t &&& 31)) &&& 1)) 0 L 0) := by
  have hL := h.l16
  unfold f_X2_ghostsIn
  rw [show (f_X2_ghostsIn_L4 n (nI t) 100 0 0) = f_X2_ghostsIn_L4 n (nI t) 100 0 (nI 0) from rfl,
    zl_up (fun k i (a : Int32) => f_X2_ghostsIn_L4 n (nI t) k a (nI i)) L (fun l a => a + ((zgo C F K dd V hm l >>> (nI t &&& 31)) &&& 1)) (fun a => a)
      (fun k a => by
        show f_X2_ghostsIn_L4 n (nI t) (k + 1) a (nI L) = some a
        rw [f_X2_ghostsIn_L4, hW.2.1, if_pos (nI_le (Nat.le_refl L) (by omega))])
      (fun k i a hi => by
        show f_X2_ghostsIn_L4 n (nI t) (k + 1) a (nI i) = f_X2_ghostsIn_L4 n (nI t) k _ (nI (i + 1))
        rw [f_X2_ghostsIn_L4, hW.2.1, if_neg (nI_ge hi (by omega)), x_ghost h hW hi, q_b1, nI_1]
        unfold f_X3_hasBit
        rcases q_and1 (zgo C F K dd V hm i >>> (nI t &&& 31)) with e | e
        · rw [e, if_neg i01, q_b1, if_pos i00]
        · rw [e, if_pos rfl, q_b1, if_neg i10])
      L 0 0 100 (by omega) (by omega)]
  rfl
theorem m_ghostsIn (h : zDat M L C F Z K dd V hm) (hW : zMod g M L C F Z K dd V hm) (hf : ∀ t, t < 15 → g 17 t = nI (zpl C t)) (t : Nat) : f_X4_ghostsIn g (nI t) = some (zi (fun l a => a + ((zgo C F K dd V hm l >>> (nI t &&& 31)) &&& 1)) 0 L 0) := by
  have hL := h.l16
  unfold f_X4_ghostsIn
  rw [show (f_X4_ghostsIn_L4 g (nI t) 100 0 0) = f_X4_ghostsIn_L4 g (nI t) 100 0 (nI 0) from rfl,
    zl_up (fun k i (a : Int32) => f_X4_ghostsIn_L4 g (nI t) k a (nI i)) L (fun l a => a + ((zgo C F K dd V hm l >>> (nI t &&& 31)) &&& 1)) (fun a => a)
      (fun k a => by
        show f_X4_ghostsIn_L4 g (nI t) (k + 1) a (nI L) = some a
        rw [f_X4_ghostsIn_L4, hW.2.1, if_pos (nI_le (Nat.le_refl L) (by omega))])
      (fun k i a hi => by
        show f_X4_ghostsIn_L4 g (nI t) (k + 1) a (nI i) = f_X4_ghostsIn_L4 g (nI t) k _ (nI (i + 1))
        rw [f_X4_ghostsIn_L4, hW.2.1, if_neg (nI_ge hi (by omega)), m_ghost h hW hf hi, q_b1, nI_1])
      L 0 0 100 (by omega) (by omega)]
  rfl
/-- the lamps that are lit in a unit -/
def zll (C : Nat) (K dd V hm : Nat → Nat) (L t : Nat) : Int32 := zi (fun l a => zst (zbt (zlt K dd V hm l) (zpl C t)) l a) 0 L 0
theorem x_litLamps (h : zDat M L C F Z K dd V hm) (hW : zWal n M L C F Z K dd V hm) {t : Nat} (ht : t < 15) : f_X2_litLamps n (nI t) = some (zll C K dd V hm L t) := by
  have hL := h.l16
  unfold f_X2_litLamps
  rw [show (f_X2_litLamps_L4 n (nI t) 100 0 0) = f_X2_litLamps_L4 n (nI t) 100 0 (nI 0) from rfl,
    zl_up (fun k i (a : Int32) => f_X2_litLamps_L4 n (nI t) k a (nI i)) L (fun l a => zst (zbt (zlt K dd V hm l) (zpl C t)) l a) (fun a => a)
      (fun k a => by
        show f_X2_litLamps_L4 n (nI t) (k + 1) a (nI L) = some a
        rw [f_X2_litLamps_L4, hW.2.1, if_pos (nI_le (Nat.le_refl L) (by omega))])
      (fun k i a hi => by
        show f_X2_litLamps_L4 n (nI t) (k + 1) a (nI i) = f_X2_litLamps_L4 n (nI t) k _ (nI (i + 1))
        rw [f_X2_litLamps_L4, hW.2.1, if_neg (nI_ge hi (by omega)), x_isLit h hW hi ht (h.pos hi), q_b1, nI_1]
        exact zst_x (L := fun a => f_X2_litLamps_L4 n (nI t) k a (nI (i + 1))) zbt_le)
      L 0 0 100 (by omega) (by omega)]
  rfl
theorem m_litIn (h : zDat M L C F Z K dd V hm) (hW : zMod g M L C F Z K dd V hm) (hf : ∀ t, t < 15 → g 17 t = nI (zpl C t)) {t : Nat} (ht : t < 15) : f_X4_litIn g (nI t) = some (zll C K dd V hm L t) := by
  have hL := h.l16
  unfold f_X4_litIn
  rw [show (f_X4_litIn_L4 g (nI t) 100 0 0) = f_X4_litIn_L4 g (nI t) 100 0 (nI 0) from rfl,
    zl_up (fun k i (a : Int32) => f_X4_litIn_L4 g (nI t) k a (nI i)) L (fun l a => zst (zbt (zlt K dd V hm l) (zpl C t)) l a) (fun a => a)
      (fun k a => by
        show f_X4_litIn_L4 g (nI t) (k + 1) a (nI L) = some a
        rw [f_X4_litIn_L4, hW.2.1, if_pos (nI_le (Nat.le_refl L) (by omega))])
      (fun k i a hi => by
        have hz := zlt_le h hi
        have hC := (h.2.2.2.2.2.2.2 (h.pos hi)).2
        show f_X4_litIn_L4 g (nI t) (k + 1) a (nI i) = f_X4_litIn_L4 g (nI t) k _ (nI (i + 1))
        rw [f_X4_litIn_L4, hW.2.1, if_neg (nI_ge hi (by omega)), m_light h hW hi, q_b1, q_rd ht (by decide), hf t ht, (q_bit (by omega) (zpl_lt hC ht)).2, zst_m zbt_le, nI_1])
      L 0 0 100 (by omega) (by omega)]
  rfl
theorem zll_n (h : zDat M L C F Z K dd V hm) (t : Nat) : ∃ s', s' < 65536 ∧ zll C K dd V hm L t = nI s' :=
  zi_set (f := fun l => zbt (zlt K dd V hm l) (zpl C t)) (fun _ => zbt_le) L 0 0 (by have := h.l16; omega) (by decide)
theorem zdk_e {C x : Nat} (hC : C ≤ 8) (hx : x ≤ 13) : f_X3_darkestStretch (zlu C x) = some (zdk C x) ∧ zq_b1 (f_X4_darkOf_L14 (zlu C x) 100 0 0 0) (fun y8 => if y8 ≤ 15 then some y8 else some 15) = some (zdk C x) := zdk_t ⟨C, by omega⟩ ⟨x, by omega⟩
theorem ztn_e {C x : Nat} (hC : C ≤ 8) (hx : x ≤ 13) : f_X3_turnsOf (zlu C x) = some (ztn C x) ∧ f_X4_turnsOf_L11 (zlu C x) 100 0 0 = some (ztn C x) := ztn_t ⟨C, by omega⟩ ⟨x, by omega⟩
end ZU
theorem p_ofLamp {o : zS} {s : zS4} {n : zS} {t : zS} {r : zS} {g : zS} (h : zRel o s n t r g) (x1 x2 : Int32) : ∃ (r0 : Int32) (g' : zS), f_X3_ofLamp n x1 x2 = some r0 ∧ f_X4_ofLamp g x1 x2 = some (r0, g') ∧ zRel o s n t r g' := by
  obtain ⟨e1, e2, e3, e4, e5, M, L, C, F, Z, K, dd, V, hm, q, ru, rl, rz, hD, hW, hM, hR⟩ := id h
  have hL := hD.l16
  unfold f_X3_ofLamp f_X4_ofLamp
  rcases k_lamp hL hW.2.1 hM.2.1 x1 with ⟨l, hl, rfl, hx, hm2⟩ | ⟨hx, hm2⟩
  · have hC := hD.2.2.2.2.2.2.2 (hD.pos hl)
    have hz := zlt_le hD hl
    obtain ⟨g', a1, a2, a3⟩ := m_frame hC hM.2.2.1
    have hM' : zMod g' M L C F Z K dd V hm := zMod_g hM (fun c hc => a3 c (by omega) (by omega))
    have hz' : zRel o s n t r g' := zRel_g h (fun k hk => a3 k (by omega) (by omega))
    have hf : ∀ t, t < 15 → g' 17 t = nI (zpl C t) := fun t ht => (a2 t ht).1
    have hl16 : l < 16 := by omega
    unfold f_X4_darkOf f_X4_turnsOf
    rw [hx, hm2, q_b1, q_b1, if_neg i10, if_pos i00, a1, q_b1, q_rd hl16 (by decide), q_rd hl16 (by decide), q_rd hl16 (by decide), q_rd hl16 (by decide), (hW.2.2.2.2.1 l hl).1, (hW.2.2.2.2.1 l hl).2, (hM'.2.2.2.2 l hl).1, (hM'.2.2.2.2 l hl).2, x_light hD hW hl, m_light hD hM' hl, x_litUnits hD hW hl, m_litOf hD hM' hf hl, x_ghost hD hW hl, m_ghost hD hM' hf hl]
    simp only [q_b1]
    rw [(zdk_e hC.2 hz).1, (zdk_e hC.2 hz).2, (ztn_e hC.2 hz).1, (ztn_e hC.2 hz).2]
    simp only [q_b1]
    by_cases c0 : x2 = 0
    · rw [if_pos c0, if_pos c0]; exact ⟨_, _, rfl, rfl, hz'⟩
    rw [if_neg c0, if_neg c0]
    by_cases c1 : x2 = 1
    · rw [if_pos c1, if_pos c1]; exact ⟨_, _, rfl, rfl, hz'⟩
    rw [if_neg c1, if_neg c1]
    by_cases c2 : x2 = 2
    · rw [if_pos c2, if_pos c2]; exact ⟨_, _, rfl, rfl, hz'⟩
    rw [if_neg c2, if_neg c2]
    by_cases c3 : x2 = 3
    · rw [if_pos c3, if_pos c3]; exact ⟨_, _, rfl, rfl, hz'⟩
    rw [if_neg c3, if_neg c3]
    by_cases c4 : x2 = 4
    · rw [if_pos c4, if_pos c4]; exact ⟨_, _, rfl, rfl, hz'⟩
    rw [if_neg c4, if_neg c4]
    by_cases c5 : x2 = 5
    · rw [if_pos c5, if_pos c5]; exact ⟨_, _, rfl, rfl, hz'⟩
    rw [if_neg c5, if_neg c5]
    by_cases c6 : x2 = 6
    · rw [if_pos c6, if_pos c6]; exact ⟨_, _, rfl, rfl, hz'⟩
    rw [if_neg c6, if_neg c6]
    exact ⟨_, _, rfl, rfl, hz'⟩
  · rw [hx, hm2, q_b1, q_b1, if_pos i00, if_neg i10]
    exact ⟨_, _, rfl, rfl, h⟩
theorem p_ofUnit {o : zS} {s : zS4} {n : zS} {t : zS} {r : zS} {g : zS} (h : zRel o s n t r g) (x1 x2 : Int32) : ∃ (r0 : Int32) (g' : zS), f_X3_ofUnit n x1 x2 = some r0 ∧ f_X4_ofUnit g x1 x2 = some (r0, g') ∧ zRel o s n t r g' := by
  obtain ⟨e1, e2, e3, e4, e5, M, L, C, F, Z, K, dd, V, hm, q, ru, rl, rz, hD, hW, hM, hR⟩ := id h
  have hL := hD.l16
  unfold f_X3_ofUnit f_X4_ofUnit
  rcases k_unit x1 with ⟨u, hu, rfl, hx, hm2⟩ | ⟨hx, hm2⟩
  rotate_left
  · rw [hx, hm2, q_b1, q_b1, if_pos i00, if_pos i00]
    exact ⟨_, _, rfl, rfl, h⟩
  rw [hx, hm2, q_b1, q_b1, if_neg i10, if_neg i10]
  rcases q_rng x2 0 4 (by decide) with ⟨j, -, hj, rfl⟩ | hj
  rotate_left
  · rw [q_inF (by rw [show (0 : Int64).toInt = 0 by decide, show (4 : Int64).toInt = 4 by decide]; omega), q_b1, if_pos i00]
    by_cases c : x2 < 0
    · rw [if_pos c]
      exact ⟨_, _, rfl, rfl, h⟩
    · rw [if_neg c, if_neg (by rw [q_le x2 4 (by decide)]; rw [q_l x2 0 (by decide)] at c; omega)]
      exact ⟨_, _, rfl, rfl, h⟩
  rw [if_neg (nI_pos (by omega)), if_pos (show nI j ≤ 4 from nI_le hj (by decide)), q_inT (by rw [show (0 : Int64).toInt = 0 by decide, show (4 : Int64).toInt = 4 by decide, q_ti (by omega)]; omega), q_b1, if_neg i10]
  rcases k_stands hD.1 hW.1 hM.1 with ⟨hp, hs1, hs2⟩ | ⟨hp, hs1, hs2⟩
  rotate_left
  · rw [hs1, q_b1, if_pos i00, if_pos hs2]
    exact ⟨_, _, rfl, rfl, h⟩
  have hC := hD.2.2.2.2.2.2.2 hp
  obtain ⟨g', a1, a2, a3⟩ := m_frame hC hM.2.2.1
  have hM' : zMod g' M L C F Z K dd V hm := zMod_g hM (fun c hc => a3 c (by omega) (by omega))
  have hz' : zRel o s n t r g' := zRel_g h (fun k hk => a3 k (by omega) (by omega))
  have hf : ∀ t, t < 15 → g' 17 t = nI (zpl C t) := fun t ht => (a2 t ht).1
  obtain ⟨w, hw, ew⟩ := zll_n hD u
  unfold f_X2_currentOf
  rw [hs1, q_b1, if_neg i10, if_neg hs2, a1, q_b1, q_rd hu (by decide), q_rd hu (by decide), q_rd hu (by decide), q_rd hu (by decide), (hW.2.2.2.2.2 hp u hu).1, (hW.2.2.2.2.2 hp u hu).2, (a2 u hu).1, (a2 u hu).2, x_litLamps hD hW hu, m_litIn hD hM' hf hu, x_ghostsIn hD hW u, m_ghostsIn hD hM' hf u, ew]
  simp only [q_b1]
  rw [j_bitCount hw, m_bits hw, zpN_pc hw]
  simp only [q_b1]
  by_cases c0 : nI j = 0
  · rw [if_pos c0, if_pos c0]; exact ⟨_, _, rfl, rfl, hz'⟩
  rw [if_neg c0, if_neg c0]
  by_cases c1 : nI j = 1
  · rw [if_pos c1, if_pos c1]; exact ⟨_, _, rfl, rfl, hz'⟩
  rw [if_neg c1, if_neg c1]
  by_cases c2 : nI j = 2
  · rw [if_pos c2, if_pos c2]; exact ⟨_, _, rfl, rfl, hz'⟩
  rw [if_neg c2, if_neg c2]
  by_cases c3 : nI j = 3
  · rw [if_pos c3, if_pos c3]; exact ⟨_, _, rfl, rfl, hz'⟩
  rw [if_neg c3, if_neg c3]
  exact ⟨_, _, rfl, rfl, hz'⟩
