theorem zRel_g3 {o : zS} {s : zS4} {n t r g g' : zS} (h : zRel o s n t r g) (e3 : g' 3 0 = g 3 0) (e : ∀ k, k ≠ 3 → (k < 10 ∨ (21 ≤ k ∧ k ≤ 24) ∨ (26 ≤ k ∧ k ≤ 28) ∨ k = 30) → g' k = g k) : zRel o s n t r g' := by
  have e0 := e 0 (by omega) (by omega)
  have e1 := e 1 (by omega) (by omega)
  have e2 := e 2 (by omega) (by omega)
  have e4 := e 4 (by omega) (by omega)
  have e5 := e 5 (by omega) (by omega)
  have e6 := e 6 (by omega) (by omega)
  have e7 := e 7 (by omega) (by omega)
  have e8 := e 8 (by omega) (by omega)
  have e9 := e 9 (by omega) (by omega)
  have e21 := e 21 (by omega) (by omega)
  have e22 := e 22 (by omega) (by omega)
  have e23 := e 23 (by omega) (by omega)
  have e24 := e 24 (by omega) (by omega)
  have e26 := e 26 (by omega) (by omega)
  have e27 := e 27 (by omega) (by omega)
  have e28 := e 28 (by omega) (by omega)
  have e30 := e 30 (by omega) (by omega)
  simpa only [zRel, zSh, zSh1, zMod, zRd, e0, e1, e2, e3, e4, e5, e6, e7, e8, e9, e21, e22, e23, e24, e26, e27, e28, e30] using h
def zdn (C x : Nat) : Nat := (zdk C x).toNatClampNeg
set_option maxRecDepth 100000 in
theorem zdn_t : ∀ C : Fin 9, ∀ x : Fin 14, zdk C.val x.val = nI (zdn C.val x.val) ∧ zdn C.val x.val ≤ 15 := by decide +kernel
theorem zdn_e {C x : Nat} (hC : C ≤ 8) (hx : x ≤ 13) : zdk C x = nI (zdn C x) ∧ zdn C x ≤ 15 := zdn_t ⟨C, by omega⟩ ⟨x, by omega⟩
section ZT
variable {n g : zS} {M L C : Nat} {F Z K dd V hm : Nat → Nat}
/-- the darkness of all -/
def zds (C : Nat) (K dd V hm : Nat → Nat) (L : Nat) : Nat := zsum (fun l => zdn C (zlt K dd V hm l)) L
theorem zds_le (h : zDat M L C F Z K dd V hm) {C' : Nat} (hC : C' ≤ 8) : zds C' K dd V hm L ≤ 240 := by
  have hL := h.l16
  have := zsum_le (f := fun l => zdn C' (zlt K dd V hm l)) (b := 15) L (fun l hl => (zdn_e hC (zlt_le h hl)).2)
  unfold zds
  omega
theorem x_dark (h : zDat M L C F Z K dd V hm) (hW : zWal n M L C F Z K dd V hm) : f_X2_darkTogether n = some (nI (zds C K dd V hm L)) := by
  have hL := h.l16
  unfold f_X2_darkTogether zds
  rw [← zsumI_n, show (f_X2_darkTogether_L4 n 100 0 0) = f_X2_darkTogether_L4 n 100 0 (nI 0) from rfl,
    zl_up (fun k i (a : Int32) => f_X2_darkTogether_L4 n k a (nI i)) L (fun l a => a + nI (zdn C (zlt K dd V hm l))) (fun a => a)
      (fun k a => by
        show f_X2_darkTogether_L4 n (k + 1) a (nI L) = some a
        rw [f_X2_darkTogether_L4, hW.2.1, if_pos (nI_le (Nat.le_refl L) (by omega))])
      (fun k i a hi => by
        have hz := zlt_le h hi
        have hC := h.2.2.2.2.2.2.2 (h.pos hi)
        show f_X2_darkTogether_L4 n (k + 1) a (nI i) = f_X2_darkTogether_L4 n k _ (nI (i + 1))
        rw [f_X2_darkTogether_L4, hW.2.1, if_neg (nI_ge hi (by omega)), x_litUnits h hW hi, q_b1, (zdk_e hC.2 hz).1, q_b1, (zdn_e hC.2 hz).1, nI_1])
      L 0 0 100 (by omega) (by omega), q_b1]
  rfl
theorem m_darkOf (h : zDat M L C F Z K dd V hm) (hW : zMod g M L C F Z K dd V hm) (hf : ∀ t, t < 15 → g 17 t = nI (zpl C t)) {l : Nat} (hl : l < L) : f_X4_darkOf g (nI l) = some (nI (zdn C (zlt K dd V hm l))) := by
  have hz := zlt_le h hl
  have hC := h.2.2.2.2.2.2.2 (h.pos hl)
  unfold f_X4_darkOf
  rw [m_litOf h hW hf hl, q_b1, (zdk_e hC.2 hz).2, (zdn_e hC.2 hz).1]
theorem m_dark (h : zDat M L C F Z K dd V hm) (hW : zMod g M L C F Z K dd V hm) (hp : 0 < M) : ∃ g', f_X4_darkOfAll g = some (nI (zds C K dd V hm L), g') ∧ (∀ c, c ≠ 17 → c ≠ 18 → g' c = g c) ∧ (∀ t, t < 15 → g' 17 t = nI (zpl C t)) := by
  have hL := h.l16
  have hC := h.2.2.2.2.2.2.2 hp
  obtain ⟨g', a1, a2, a3⟩ := m_frame hC hW.2.2.1
  have hM' : zMod g' M L C F Z K dd V hm := zMod_g hW (fun c hc => a3 c (by omega) (by omega))
  have hf : ∀ t, t < 15 → g' 17 t = nI (zpl C t) := fun t ht => (a2 t ht).1
  refine ⟨g', ?_, a3, hf⟩
  unfold f_X4_darkOfAll zds
  rw [a1, q_b1, ← zsumI_n, show (f_X4_darkOfAll_L8 g' 100 0 0) = f_X4_darkOfAll_L8 g' 100 0 (nI 0) from rfl,
    zl_up (fun k i (a : Int32) => f_X4_darkOfAll_L8 g' k a (nI i)) L (fun l a => a + nI (zdn C (zlt K dd V hm l))) (fun a => a)
      (fun k a => by
        show f_X4_darkOfAll_L8 g' (k + 1) a (nI L) = some a
        rw [f_X4_darkOfAll_L8, hM'.2.1, if_pos (nI_le (Nat.le_refl L) (by omega))])
      (fun k i a hi => by
        show f_X4_darkOfAll_L8 g' (k + 1) a (nI i) = f_X4_darkOfAll_L8 g' k _ (nI (i + 1))
        rw [f_X4_darkOfAll_L8, hM'.2.1, if_neg (nI_ge hi (by omega)), m_darkOf h hM' hf hi, q_b1, nI_1])
      L 0 0 100 (by omega) (by omega), q_b1]
  rfl
theorem m_darkBy (h : zDat M L C F Z K dd V hm) (hW : zMod g M L C F Z K dd V hm) (hp : 0 < M) {C' : Nat} (hC' : 1 ≤ C' ∧ C' ≤ 8) : ∃ g', f_X4_darkBy g (nI C') = some (nI (zds C' K dd V hm L), g') ∧ g' 3 0 = g 3 0 ∧ (∀ c, c ≠ 3 → c ≠ 17 → c ≠ 18 → g' c = g c) := by
  obtain ⟨g', a1, a2, -⟩ := m_dark (zDat_C h hp hC') (zMod_C (C' := C') hW) hp
  refine ⟨va_up g' 3 (fun _ => (g 3 0)), ?_, rfl, fun c c1 c2 c3 => ?_⟩
  · unfold f_X4_darkBy
    rw [q_lt, a1]
    rfl
  · rw [q_upn c1, a2 c c2 c3, q_upn c1]
end ZT
/-- the first best of 1..k -/
def zbs (D : Nat → Nat) : Nat → Nat
  | 0 => 1
  | k + 1 => if D (zbs D k) ≤ D (k + 1) then zbs D k else k + 1
theorem zbs_in (D : Nat → Nat) : ∀ k, k ≤ 8 → 1 ≤ zbs D k ∧ zbs D k ≤ 8
  | 0, _ => ⟨Nat.le_refl 1, show 1 ≤ 8 by decide⟩
  | k + 1, h => by
    have := zbs_in D k (by omega)
    show 1 ≤ (if D (zbs D k) ≤ D (k + 1) then zbs D k else k + 1) ∧ (if D (zbs D k) ≤ D (k + 1) then zbs D k else k + 1) ≤ 8
    split <;> omega
theorem p_steadiest {o : zS} {s : zS4} {n : zS} {t : zS} {r : zS} {g : zS} (h : zRel o s n t r g) (x1 : Int32) : ∃ (r0 : Int32) (t' : zS) (g' : zS), f_X3_steadiest n t x1 = some (r0, t') ∧ f_X4_steadiest g x1 = some (r0, g') ∧ zRel o s n t' r g' := by
  obtain ⟨e1, e2, e3, e4, e5, M, L, C, F, Z, K, dd, V, hm, q, ru, rl, rz, hD, hW, hM, hR⟩ := id h
  have hL := hD.l16
  unfold f_X3_steadiest f_X4_steadiest
  have h0 : (0 : Int64).toInt = 0 := by decide
  have h2 : (2 : Int64).toInt = 2 := by decide
  by_cases c1 : x1 < 0
  · rw [if_pos c1]
    rw [q_l x1 0 (by decide)] at c1
    rw [q_inF (by rw [h0, h2]; omega), q_b1, if_pos i00]
    exact ⟨_, _, _, rfl, rfl, h⟩
  rw [if_neg c1]
  rw [q_l x1 0 (by decide)] at c1
  by_cases c2 : x1 ≤ 2
  rotate_left
  · rw [if_neg c2]
    rw [q_le x1 2 (by decide)] at c2
    rw [q_inF (by rw [h0, h2]; omega), q_b1, if_pos i00]
    exact ⟨_, _, _, rfl, rfl, h⟩
  rw [if_pos c2]
  rw [q_le x1 2 (by decide)] at c2
  rw [q_inT (by rw [h0, h2]; omega), q_b1, if_neg i10]
  rcases k_stands hD.1 hW.1 hM.1 with ⟨hp, hs1, hs2⟩ | ⟨hp, hs1, hs2⟩
  rotate_left
  · rw [hs1, q_b1, if_pos i00, if_pos hs2]
    exact ⟨_, _, _, rfl, rfl, h⟩
  rw [hs1, q_b1, if_neg i10, if_neg hs2]
  have hC := hD.2.2.2.2.2.2.2 hp
  have hle : ∀ c, c ≤ 8 → zds c K dd V hm L ≤ 240 := fun c hc => zds_le hD hc
  -- the reference's loop
  have hml : ∃ g1, f_X4_steadiest_L29 100 1 2 g = some (nI (zbs (fun c => zds c K dd V hm L) 8), g1) ∧ (g1 3 0 = g 3 0 ∧ (∀ c, c ≠ 3 → c ≠ 17 → c ≠ 18 → g1 c = g c)) := by
    obtain ⟨a', b1, b2⟩ := zl_inv (fun k i (a : Int32 × zS) => f_X4_steadiest_L29 k a.1 (nI (i + 1)) a.2) 8 (fun i a => a.1 = nI (zbs (fun c => zds c K dd V hm L) i) ∧ (a.2 3 0 = g 3 0 ∧ (∀ c, c ≠ 3 → c ≠ 17 → c ≠ 18 → a.2 c = g c))) (fun a => a)
      (fun k a _ => by
        show f_X4_steadiest_L29 (k + 1) a.1 (nI 9) a.2 = some (a.1, a.2)
        rw [f_X4_steadiest_L29, if_pos (by decide)])
      (fun k i a hi hI => by
        obtain ⟨w, a⟩ := a
        obtain ⟨hI1, hI2, hI3⟩ := hI
        have hI1 : w = nI (zbs (fun c => zds c K dd V hm L) i) := hI1
        have hI2 : a 3 0 = g 3 0 := hI2
        have hI3 : ∀ c, c ≠ 3 → c ≠ 17 → c ≠ 18 → a c = g c := hI3
        have hzb := zbs_in (fun c => zds c K dd V hm L) i (by omega)
        have hMa : zMod a M L C F Z K dd V hm := by
          obtain ⟨m1, m2, m3, m4, m5⟩ := hM
          exact ⟨by rw [hI3 1 (by decide) (by decide) (by decide)]; exact m1, by rw [hI3 2 (by decide) (by decide) (by decide)]; exact m2, by rw [hI2]; exact m3, fun m hm => by rw [hI3 4 (by decide) (by decide) (by decide), hI3 5 (by decide) (by decide) (by decide), hI3 6 (by decide) (by decide) (by decide), hI3 7 (by decide) (by decide) (by decide)]; exact m4 m hm, fun l hl => by rw [hI3 8 (by decide) (by decide) (by decide), hI3 9 (by decide) (by decide) (by decide)]; exact m5 l hl⟩
        obtain ⟨g1, f1, f2, f3⟩ := m_darkBy (C' := i + 1) hD hMa hp ⟨by omega, by omega⟩
        have hMb : zMod g1 M L C F Z K dd V hm := by
          obtain ⟨m1, m2, m3, m4, m5⟩ := hMa
          exact ⟨by rw [f3 1 (by decide) (by decide) (by decide)]; exact m1, by rw [f3 2 (by decide) (by decide) (by decide)]; exact m2, by rw [f2]; exact m3, fun m hm => by rw [f3 4 (by decide) (by decide) (by decide), f3 5 (by decide) (by decide) (by decide), f3 6 (by decide) (by decide) (by decide), f3 7 (by decide) (by decide) (by decide)]; exact m4 m hm, fun l hl => by rw [f3 8 (by decide) (by decide) (by decide), f3 9 (by decide) (by decide) (by decide)]; exact m5 l hl⟩
        obtain ⟨g2, f4, f5, f6⟩ := m_darkBy (C' := zbs (fun c => zds c K dd V hm L) i) hD hMb hp hzb
        refine ⟨(nI (zbs (fun c => zds c K dd V hm L) (i + 1)), g2), ⟨rfl, ?_, ?_⟩, ?_⟩
        · show g2 3 0 = g 3 0
          rw [f5, f2, hI2]
        · intro c d1 d2 d3
          show g2 c = g c
          rw [f6 c d1 d2 d3, f3 c d1 d2 d3, hI3 c d1 d2 d3]
        · show f_X4_steadiest_L29 (k + 1) w (nI (i + 1)) a = f_X4_steadiest_L29 k (nI (if zds (zbs (fun c => zds c K dd V hm L) i) K dd V hm L ≤ zds (i + 1) K dd V hm L then zbs (fun c => zds c K dd V hm L) i else i + 1)) (nI (i + 1 + 1)) g2
          have l1 := hle _ hzb.2
          have l2 := hle (i + 1) (by omega)
          rw [f_X4_steadiest_L29, if_neg (show ¬ 8 < nI (i + 1) from nI_nlt (a := 8) (by omega) (by decide)), f1, q_b2, hI1, f4, q_b2, nI_1]
          by_cases c : zds (zbs (fun c => zds c K dd V hm L) i) K dd V hm L ≤ zds (i + 1) K dd V hm L
          · rw [if_pos (nI_le c (by omega)), if_pos c]
          · rw [if_neg (nI_ge (by omega) (by omega)), if_neg c])
      7 1 (nI 1, g) 100 (by omega) ⟨by
        show nI 1 = nI (if zds 1 K dd V hm L ≤ zds 1 K dd V hm L then 1 else 1)
        rw [if_pos (Nat.le_refl _)], rfl, fun _ _ _ _ => rfl⟩ (by omega)
    refine ⟨a'.2, ?_, b1.2⟩
    rw [← b1.1]
    exact b2
  obtain ⟨g1, hg1, hg2, hg3⟩ := hml
  have hM1 : zMod g1 M L C F Z K dd V hm := by
    obtain ⟨m1, m2, m3, m4, m5⟩ := hM
    exact ⟨by rw [hg3 1 (by decide) (by decide) (by decide)]; exact m1, by rw [hg3 2 (by decide) (by decide) (by decide)]; exact m2, by rw [hg2]; exact m3, fun m hm => by rw [hg3 4 (by decide) (by decide) (by decide), hg3 5 (by decide) (by decide) (by decide), hg3 6 (by decide) (by decide) (by decide), hg3 7 (by decide) (by decide) (by decide)]; exact m4 m hm, fun l hl => by rw [hg3 8 (by decide) (by decide) (by decide), hg3 9 (by decide) (by decide) (by decide)]; exact m5 l hl⟩
  have hb8 := zbs_in (fun c => zds c K dd V hm L) 8 (by omega)
  rw [hg1, q_b2]
  -- the class's loop
  have hxl : ∀ t1, zWal t1 M L C F Z K dd V hm → zB4 t1 → ∃ t2, f_X3_steadiest_L57 100 1 2147483647 1 t1 = some (nI (zbs (fun c => zds c K dd V hm L) 8), nI (zds (zbs (fun c => zds c K dd V hm L) 8) K dd V hm L), t2) ∧ zB4 t2 := by
    intro t1 hw1 hb1
    obtain ⟨a', b1, b2⟩ := zl_inv (fun k i (a : Int32 × Int32 × zS) => f_X3_steadiest_L57 k a.1 a.2.1 (nI (i + 1)) a.2.2) 8 (fun i a => a.1 = nI (zbs (fun c => zds c K dd V hm L) i) ∧ (a.2.1 = if i = 0 then nI 2147483647 else nI (zds (zbs (fun c => zds c K dd V hm L) i) K dd V hm L)) ∧ zB4 a.2.2 ∧ ∃ C1, zWal a.2.2 M L C1 F Z K dd V hm) (fun a => a)
      (fun k a _ => by
        show f_X3_steadiest_L57 (k + 1) a.1 a.2.1 (nI 9) a.2.2 = some (a.1, a.2.1, a.2.2)
        rw [f_X3_steadiest_L57, if_pos (by decide)])
      (fun k i a hi hI => by
        obtain ⟨w, z, a⟩ := a
        obtain ⟨hI1, hI2, hI3, C1, hI4⟩ := hI
        have hI1 : w = nI (zbs (fun c => zds c K dd V hm L) i) := hI1
        have hI2 : z = if i = 0 then nI 2147483647 else nI (zds (zbs (fun c => zds c K dd V hm L) i) K dd V hm L) := hI2
        have hI3 : zB4 a := hI3
        have hI4 : zWal a M L C1 F Z K dd V hm := hI4
        have hzb := zbs_in (fun c => zds c K dd V hm L) i (by omega)
        have hCi : 1 ≤ i + 1 ∧ i + 1 ≤ 8 := ⟨by omega, by omega⟩
        obtain ⟨a2, f1, f2, f3, f4⟩ := x_frame (n := a) hCi
        have hW2 := zWal_C hI4 f2 f3 f4
        have l1 := hle _ hzb.2
        have l2 := hle (i + 1) (by omega)
        refine ⟨(nI (zbs (fun c => zds c K dd V hm L) (i + 1)), nI (zds (zbs (fun c => zds c K dd V hm L) (i + 1)) K dd V hm L), a2), ⟨rfl, ?_, zB4_e hI3 (f4 3 (by decide) (by decide) (by decide)), i + 1, hW2⟩, ?_⟩
        · show _ = if i + 1 = 0 then _ else _
          rw [if_neg (by omega)]
        · show f_X3_steadiest_L57 (k + 1) w z (nI (i + 1)) a = f_X3_steadiest_L57 k (nI (if zds (zbs (fun c => zds c K dd V hm L) i) K dd V hm L ≤ zds (i + 1) K dd V hm L then zbs (fun c => zds c K dd V hm L) i else i + 1)) (nI (zds (if zds (zbs (fun c => zds c K dd V hm L) i) K dd V hm L ≤ zds (i + 1) K dd V hm L then zbs (fun c => zds c K dd V hm L) i else i + 1) K dd V hm L)) (nI (i + 1 + 1)) a2
          rw [f_X3_steadiest_L57, if_neg (show ¬ 8 < nI (i + 1) from nI_nlt (a := 8) (by omega) (by decide)), f1, q_b1, x_dark (zDat_C hD hp hCi) hW2, q_b1, hI1, hI2, nI_1]
          by_cases c0 : i = 0
          · subst c0
            rw [if_pos rfl, if_neg (nI_ge (by omega) (by decide))]
            show _ = f_X3_steadiest_L57 k (nI (if zds 1 K dd V hm L ≤ zds 1 K dd V hm L then 1 else 1)) (nI (zds (if zds 1 K dd V hm L ≤ zds 1 K dd V hm L then 1 else 1) K dd V hm L)) (nI 2) a2
            rw [if_pos (Nat.le_refl _)]
          · rw [if_neg c0]
            by_cases c : zds (zbs (fun c => zds c K dd V hm L) i) K dd V hm L ≤ zds (i + 1) K dd V hm L
            · rw [if_pos (nI_le c (by omega)), if_pos c]
            · rw [if_neg (nI_ge (by omega) (by omega)), if_neg c])
      8 0 (nI 1, nI 2147483647, t1) 100 (by omega) ⟨rfl, rfl, hb1, C, hw1⟩ (by omega)
    refine ⟨a'.2.2, ?_, b1.2.2.1⟩
    have hz2 := b1.2.1
    rw [if_neg (by omega)] at hz2
    rw [← b1.1, ← hz2]
    exact b2
  obtain ⟨t1, u1, u2, u3⟩ := x_likeW (n := t) hD hW e3
  obtain ⟨t2, u4, u5⟩ := hxl t1 u2 u3
  by_cases d2 : x1 = 2
  · obtain ⟨g2, f1, f2, f3⟩ := m_darkBy (C' := C) hD hM1 hp hC
    rw [if_pos d2, x_dark hD hW, q_b1, d2, if_neg (by decide), if_neg (by decide), hM1.2.2.1, f1, q_b2]
    exact ⟨_, _, _, rfl, rfl, zRel_g3 h (by rw [f2, hg2]) (fun k k1 k2 => by rw [f3 k k1 (by omega) (by omega), hg3 k k1 (by omega) (by omega)])⟩
  rw [if_neg d2, u1, q_b1, u4, q_b3]
  by_cases d0 : x1 = 0
  · rw [if_pos d0, if_pos d0]
    exact ⟨_, _, _, rfl, rfl, zRel_t (zRel_g3 h hg2 (fun k k1 k2 => hg3 k k1 (by omega) (by omega))) u5⟩
  · rw [if_neg d0, if_neg d0]
    have d1 : x1 = 1 := by
      apply Int32.toInt_inj.mp
      have t0 : x1.toInt ≠ 0 := fun z => d0 (Int32.toInt_inj.mp z)
      have t2 : x1.toInt ≠ 2 := fun z => d2 (Int32.toInt_inj.mp z)
      have z0 : (0 : Int32).toInt = 0 := by decide
      have z1 : (1 : Int32).toInt = 1 := by decide
      have z2 : (2 : Int32).toInt = 2 := by decide
      omega
    obtain ⟨g2, f1, f2, f3⟩ := m_darkBy (C' := zbs (fun c => zds c K dd V hm L) 8) hD hM1 hp hb8
    rw [if_pos d1, f1, q_b2]
    exact ⟨_, _, _, rfl, rfl, zRel_t (zRel_g3 h (by rw [f2, hg2]) (fun k k1 k2 => by rw [f3 k k1 (by omega) (by omega), hg3 k k1 (by omega) (by omega)])) u5⟩
