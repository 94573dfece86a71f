theorem zDat_V {M L C : Nat} {F Z K dd V V' hm : Nat → Nat} (h : zDat M L C F Z K dd V hm) (hV : ∀ l, l < L → V' l ≤ 9) : zDat M L C F Z K dd V' hm := by
  obtain ⟨h1, h2, h3, h4, h5, h6, h7, h8⟩ := h
  exact ⟨h1, h2, h3, h4, h5, hV, h7, h8⟩
theorem zDat_d {M L C : Nat} {F Z K dd dd' V hm : Nat → Nat} (h : zDat M L C F Z K dd V hm) (hd : ∀ m, m < M → dd' m ≤ 1) : zDat M L C F Z K dd' V hm := by
  obtain ⟨h1, h2, h3, h4, h5, h6, h7, h8⟩ := h
  exact ⟨h1, h2, fun m hm => ⟨(h3 m hm).1, (h3 m hm).2.1, (h3 m hm).2.2.1, (h3 m hm).2.2.2.1, hd m hm⟩, h4, h5, h6, h7, h8⟩
theorem zDat_K {M L C : Nat} {F Z K K' dd V hm : Nat → Nat} (h : zDat M L C F Z K dd V hm) (hd : ∀ m, m < M → K' m ≤ 2) : zDat M L C F Z K' dd V hm := by
  obtain ⟨h1, h2, h3, h4, h5, h6, h7, h8⟩ := h
  exact ⟨h1, h2, fun m hm => ⟨(h3 m hm).1, (h3 m hm).2.1, (h3 m hm).2.2.1, hd m hm, (h3 m hm).2.2.2.2⟩, h4, h5, h6, h7, h8⟩
theorem zDat_C {M L C C' : Nat} {F Z K dd V hm : Nat → Nat} (h : zDat M L C F Z K dd V hm) (hM : 0 < M) (hc : 1 ≤ C' ∧ C' ≤ 8) : zDat M L C' F Z K dd V hm := by
  obtain ⟨h1, h2, h3, h4, h5, h6, h7, h8⟩ := h
  exact ⟨h1, h2, h3, h4, h5, h6, fun e => by omega, fun _ => hc⟩
theorem zWal_V {n : zS} {M L C : Nat} {F Z K dd V hm : Nat → Nat} (h : zWal n M L C F Z K dd V hm) (l v : Nat) : zWal (va_up n 4 (upd (n 4) l (nI v))) M L C F Z K dd (va_up V l v) hm := by
  obtain ⟨h1, h2, h3, h4, h5, h6⟩ := h
  refine ⟨h1, h2, h3, h4, fun j hj => ⟨?_, (h5 j hj).2⟩, h6⟩
  rw [q_up]
  by_cases c : j = l
  · subst c; rw [q_upd, q_up]
  · rw [q_updn c, q_upn c]; exact (h5 j hj).1
theorem zMod_V {n : zS} {M L C : Nat} {F Z K dd V hm : Nat → Nat} (h : zMod n M L C F Z K dd V hm) (l v : Nat) : zMod (va_up n 8 (upd (n 8) l (nI v))) M L C F Z K dd (va_up V l v) hm := by
  obtain ⟨h1, h2, h3, h4, h5⟩ := h
  refine ⟨h1, h2, h3, h4, fun j hj => ⟨?_, (h5 j hj).2⟩⟩
  rw [q_up]
  by_cases c : j = l
  · subst c; rw [q_upd, q_up]
  · rw [q_updn c, q_upn c]; exact (h5 j hj).1
theorem zWal_d {n : zS} {M L C : Nat} {F Z K dd V hm : Nat → Nat} (h : zWal n M L C F Z K dd V hm) (l v : Nat) : zWal (va_up n 3 (upd (n 3) l (nI v))) M L C F Z K (va_up dd l v) V hm := by
  obtain ⟨h1, h2, h3, h4, h5, h6⟩ := h
  refine ⟨h1, h2, h3, fun j hj => ⟨(h4 j hj).1, (h4 j hj).2.1, (h4 j hj).2.2.1, ?_⟩, h5, h6⟩
  rw [q_up]
  by_cases c : j = l
  · subst c; rw [q_upd, q_up]
  · rw [q_updn c, q_upn c]; exact (h4 j hj).2.2.2
theorem zMod_d {n : zS} {M L C : Nat} {F Z K dd V hm : Nat → Nat} (h : zMod n M L C F Z K dd V hm) (l v : Nat) : zMod (va_up n 7 (upd (n 7) l (nI v))) M L C F Z K (va_up dd l v) V hm := by
  obtain ⟨h1, h2, h3, h4, h5⟩ := h
  refine ⟨h1, h2, h3, fun j hj => ⟨(h4 j hj).1, (h4 j hj).2.1, (h4 j hj).2.2.1, ?_⟩, h5⟩
  rw [q_up]
  by_cases c : j = l
  · subst c; rw [q_upd, q_up]
  · rw [q_updn c, q_upn c]; exact (h4 j hj).2.2.2
theorem zWal_K {n : zS} {M L C : Nat} {F Z K dd V hm : Nat → Nat} (h : zWal n M L C F Z K dd V hm) (l v : Nat) : zWal (va_up n 0 (upd (n 0) l (nI v))) M L C F Z (va_up K l v) dd V hm := by
  obtain ⟨h1, h2, h3, h4, h5, h6⟩ := h
  refine ⟨h1, h2, h3, fun j hj => ⟨?_, (h4 j hj).2⟩, h5, h6⟩
  rw [q_up]
  by_cases c : j = l
  · subst c; rw [q_upd, q_up]
  · rw [q_updn c, q_upn c]; exact (h4 j hj).1
theorem zMod_K {n : zS} {M L C : Nat} {F Z K dd V hm : Nat → Nat} (h : zMod n M L C F Z K dd V hm) (l v : Nat) : zMod (va_up n 4 (upd (n 4) l (nI v))) M L C F Z (va_up K l v) dd V hm := by
  obtain ⟨h1, h2, h3, h4, h5⟩ := h
  refine ⟨h1, h2, h3, fun j hj => ⟨?_, (h4 j hj).2⟩, h5⟩
  rw [q_up]
  by_cases c : j = l
  · subst c; rw [q_upd, q_up]
  · rw [q_updn c, q_upn c]; exact (h4 j hj).1
theorem zB4_d {n : zS} (h : zB4 n) (l : Nat) {v : Nat} (hv : v ≤ 1) : zB4 (va_up n 3 (upd (n 3) l (nI v))) := by
  intro i hi
  rw [q_up]
  by_cases c : i = l
  · subst c; rw [q_upd]
    rcases (show v = 0 ∨ v = 1 by omega) with rfl | rfl
    · exact Or.inl rfl
    · exact Or.inr rfl
  · rw [q_updn c]; exact h i hi
theorem va_up_le {V : Nat → Nat} {L l v b : Nat} (h : ∀ j, j < L → V j ≤ b) (hv : v ≤ b) : ∀ j, j < L → va_up V l v j ≤ b := by
  intro j hj
  by_cases c : j = l
  · subst c; rw [q_up]; exact hv
  · rw [q_upn c]; exact h j hj
theorem p_level {o : zS} {s : zS4} {n : zS} {t : zS} {r : zS} {g : zS} (h : zRel o s n t r g) (x1 x2 : Int32) : ∃ (r0 : Int32) (n' : zS) (g' : zS), f_X3_level n x1 x2 = some (r0, n') ∧ f_X4_level g x1 x2 = some (r0, g') ∧ zRel o s n' t r g' := by
  obtain ⟨e1, e2, e3, e4, e5, M, L, C, F, Z, K, dd, V, hm, q, ru, rl, rz, hD, hW, hM, hR⟩ := id h
  have hL := hD.l16
  unfold f_X3_level f_X4_level
  rcases k_lamp hL hW.2.1 hM.2.1 x1 with ⟨l, hl, rfl, hx, hm2⟩ | ⟨hx, hm2⟩
  · have hl16 : l < 16 := by omega
    rw [hx, hm2, q_b1, q_b1, if_neg i10, if_pos i00]
    rcases k_level x2 with ⟨v, hv, rfl, hx2, hm3⟩ | ⟨hx2, hm3⟩
    · rw [hx2, hm3, q_b1, q_b1, if_neg i10, if_neg i10, q_rd hl16 (by decide), q_in hl16 (by decide), q_lt, q_cl (by omega), q_rd hl16 (by decide), q_in hl16 (by decide), q_lt, (hW.2.2.2.2.1 l hl).1, (hM.2.2.2.2 l hl).1]
      exact ⟨_, _, _, rfl, rfl, e1, e2, e3, e4, e5, M, L, C, F, Z, K, dd, va_up V l v, hm, q, ru, rl, rz, zDat_V hD (va_up_le hD.2.2.2.2.2.1 hv), zWal_V hW l v, zMod_V hM l v, hR⟩
    · rw [hx2, hm3, q_b1, q_b1, if_pos i00, if_pos i00]
      exact ⟨_, _, _, rfl, rfl, h⟩
  · rw [hx, hm2, q_b1, q_b1, if_pos i00, if_neg i10]
    exact ⟨_, _, _, rfl, rfl, h⟩
theorem p_die {o : zS} {s : zS4} {n : zS} {t : zS} {r : zS} {g : zS} (h : zRel o s n t r g) (x1 : Int32) : ∃ (r0 : Int32) (n' : zS) (g' : zS), f_X3_die n x1 = some (r0, n') ∧ f_X4_die g x1 = some (r0, g') ∧ zRel o s n' t r g' := by
  obtain ⟨e1, e2, e3, e4, e5, M, L, C, F, Z, K, dd, V, hm, q, ru, rl, rz, hD, hW, hM, hR⟩ := id h
  unfold f_X3_die f_X4_die
  rcases k_mod hD.1 hW.1 hM.1 x1 with ⟨m, hm', rfl, hx, hm2⟩ | ⟨hx, hm2⟩
  · have hm4 : m < 4 := Nat.lt_of_lt_of_le hm' hD.1
    have hd := (hD.2.2.1 m hm').2.2.2.2
    rw [hx, hm2, q_b1, q_b1, if_neg i10, if_pos i00, q_rd hm4 (by decide), q_rd hm4 (by decide), (hW.2.2.2.1 m hm').2.2.2, (hM.2.2.2.1 m hm').2.2.2, q_cl (by omega)]
    have fin : ∀ v : Nat, v ≤ 1 → zRel o s (va_up n 3 (upd (n 3) m (nI v))) t r (va_up g 7 (upd (g 7) m (nI v))) := fun v hv =>
      ⟨e1, e2, zB4_d e3 m hv, e4, e5, M, L, C, F, Z, K, va_up dd m v, V, hm, q, ru, rl, rz, zDat_d hD (va_up_le (fun j hj => (hD.2.2.1 j hj).2.2.2.2) hv), zWal_d hW m v, zMod_d hM m v, hR⟩
    rcases (show dd m = 0 ∨ dd m = 1 by omega) with e | e
    · rw [e, if_pos (show nI 0 = (0 : Int32) from rfl), q_in hm4 (by decide), q_lt, q_rd hm4 (by decide), q_in hm4 (by decide), q_lt, q_rd hm4 (by decide), q_up, q_upd, q_up, q_upd, if_neg (by decide)]
      exact ⟨1, _, _, rfl, rfl, fin 1 (by omega)⟩
    · rw [e, if_neg (show ¬ nI 1 = (0 : Int32) by decide), q_in hm4 (by decide), q_lt, q_rd hm4 (by decide), q_in hm4 (by decide), q_lt, q_rd hm4 (by decide), q_up, q_upd, q_up, q_upd, if_pos (by decide)]
      exact ⟨0, _, _, rfl, rfl, fin 0 (by omega)⟩
  · rw [hx, hm2, q_b1, q_b1, if_pos i00, if_neg i10]
    exact ⟨_, _, _, rfl, rfl, h⟩
theorem p_back {o : zS} {s : zS4} {n : zS} {t : zS} {r : zS} {g : zS} (h : zRel o s n t r g) (x1 : Int32) : ∃ (r0 : Int32) (r' : zS) (g' : zS), f_X3_back r x1 = some (r0, r') ∧ f_X4_back g x1 = some (r0, g') ∧ zRel o s n t r' g' := by
  obtain ⟨e1, e2, e3, e4, e5, M, L, C, F, Z, K, dd, V, hm, q, ru, rl, rz, hD, hW, hM, hq, hr, hg, hi⟩ := id h
  unfold f_X3_back f_X4_back
  rw [hr, hg]
  have ht : (Int32.toInt64 (nI q)).toInt = (q : Int) := by rw [Int32.toInt_toInt64, q_ti (by omega)]
  rcases q_rng x1 0 q (by omega) with ⟨j, -, hj, rfl⟩ | hj
  · rw [if_neg (nI_pos (by omega)), if_pos (nI_le hj (by omega)), q_inT (by rw [show (0 : Int64).toInt = 0 by decide, ht, q_ti (by omega)]; omega), q_b1, if_neg i10, q_lt, q_lt, pk_sub hj]
    refine ⟨_, _, _, rfl, rfl, e1, e2, e3, e4, e5, M, L, C, F, Z, K, dd, V, hm, q - j, ru, rl, rz, hD, hW, hM, by omega, rfl, rfl, fun i h => hi i (by omega)⟩
  · rw [q_inF (by rw [show (0 : Int64).toInt = 0 by decide, ht]; omega), q_b1, if_pos i00]
    by_cases c : x1 < 0
    · rw [if_pos c]
      exact ⟨_, _, _, rfl, rfl, h⟩
    · rw [if_neg c, if_neg (by rw [q_le x1 q (q_ti (by omega))]; rw [q_l x1 0 (by decide)] at c; omega)]
      exact ⟨_, _, _, rfl, rfl, h⟩
theorem p_reading {o : zS} {s : zS4} {n : zS} {t : zS} {r : zS} {g : zS} (h : zRel o s n t r g) (x1 x2 x3 : Int32) : ∃ (r0 : Int32) (r' : zS) (g' : zS), f_X3_reading n r x1 x2 x3 = some (r0, r') ∧ f_X4_reading g x1 x2 x3 = some (r0, g') ∧ zRel o s n t r' g' := by
  obtain ⟨e1, e2, e3, e4, e5, M, L, C, F, Z, K, dd, V, hm, q, ru, rl, rz, hD, hW, hM, hq, hr, hg, hi⟩ := id h
  have hL := hD.l16
  unfold f_X3_reading f_X4_reading
  rcases k_lamp hL hW.2.1 hM.2.1 x2 with ⟨l, hl, rfl, hx, hm2⟩ | ⟨hx, hm2⟩
  · rw [hx, hm2, q_b1, q_b1, if_neg i10, if_pos i00]
    rcases k_unit x1 with ⟨u, hu, rfl, hx2, hm3⟩ | ⟨hx2, hm3⟩
    · rw [hx2, hm3, q_b1, q_b1, if_neg i10, if_neg i10]
      rcases q_rng x3 0 1 (by decide) with ⟨z, -, hz, rfl⟩ | hj
      · rw [if_neg (nI_pos (by omega)), if_pos (show nI z ≤ 1 from nI_le hz (by decide)), q_inT (by rw [show (0 : Int64).toInt = 0 by decide, show (1 : Int64).toInt = 1 by decide, q_ti (by omega)]; omega), q_b1, if_neg i10, hr, hg]
        by_cases c : q = 8
        · rw [if_neg (show ¬ nI q < 8 by rw [c]; decide), if_pos (show nI q = 8 by rw [c]; rfl)]
          exact ⟨_, _, _, rfl, rfl, h⟩
        · have hq8 : q < 8 := by omega
          rw [if_pos (show nI q < 8 from nI_lt hq8 (by decide)), if_neg (show ¬ nI q = 8 by rw [show (8 : Int32) = nI 8 from rfl, nI_eq (by omega) (by decide)]; omega)]
          have hn : ∀ v : Int32, vp_nar .boolean v = v → f_X0_note r (nI u) (nI l) v = some (nI (q + 1) - 1, va_up (va_up (va_up (va_up r 0 (upd (r 0) q (nI u))) 1 (upd (r 1) q (nI l))) 2 (upd (r 2) q v)) 3 (fun _ => nI (q + 1))) := by
            intro v hv
            unfold f_X0_note
            rw [hr, q_in hq8 (by decide), q_lt, q_cl (by omega)]
            rw [show (va_up r 0 (upd (r 0) q (nI u))) 3 0 = nI q from hr, q_in hq8 (by decide), q_lt, q_cl (by omega)]
            rw [show (va_up (va_up r 0 (upd (r 0) q (nI u))) 1 (upd ((va_up r 0 (upd (r 0) q (nI u))) 1) q (nI l))) 3 0 = nI q from hr, q_in hq8 (by decide), q_lt, q_cl (by omega), q_lt, hv]
            show some (r 3 0 + 1 - 1, _) = _
            rw [hr, nI_1]
            congr 2
            show va_up _ 3 (fun _ => r 3 0 + 1) = _
            rw [hr, nI_1]
            rfl
          have hz2 : (if nI z = 1 then zq_b2 (f_X0_note r (nI u) (nI l) 1) (fun r15 r16 => some (r15, r16)) else zq_b2 (f_X0_note r (nI u) (nI l) 0) (fun r12 r13 => some (r12, r13))) = some (nI (q + 1) - 1, va_up (va_up (va_up (va_up r 0 (upd (r 0) q (nI u))) 1 (upd (r 1) q (nI l))) 2 (upd (r 2) q (nI z))) 3 (fun _ => nI (q + 1))) := by
            rcases (show z = 0 ∨ z = 1 by omega) with rfl | rfl
            · rw [if_neg (by decide), hn 0 (by decide), q_b2]; rfl
            · rw [if_pos (by decide), hn 1 (by decide), q_b2]; rfl
          rw [hz2, q_in hq8 (by decide), q_lt, q_cl (by omega)]
          rw [show (va_up g 22 (upd (g 22) q (nI u))) 21 0 = nI q from hg, q_in hq8 (by decide), q_lt, q_cl (by omega)]
          rw [show (va_up (va_up g 22 (upd (g 22) q (nI u))) 23 (upd ((va_up g 22 (upd (g 22) q (nI u))) 23) q (nI l))) 21 0 = nI q from hg, q_in hq8 (by decide), q_lt, q_cl (by omega), q_lt]
          refine ⟨_, _, va_up (va_up (va_up (va_up g 22 (upd (g 22) q (nI u))) 23 (upd (g 23) q (nI l))) 24 (upd (g 24) q (nI z))) 21 (fun _ => nI (q + 1)), rfl, ?_, e1, e2, e3, e4, e5, M, L, C, F, Z, K, dd, V, hm, q + 1, va_up ru q u, va_up rl q l, va_up rz q z, hD, hW, hM, by omega, rfl, rfl, ?_⟩
          · show some (g 21 0 + 1 - 1, va_up _ 21 (fun _ => g 21 0 + 1)) = _
            rw [hg, nI_1]
            rfl
          · intro i hi'
            by_cases ci : i = q
            · subst ci
              refine ⟨⟨?_, ?_, ?_⟩, ⟨?_, ?_, ?_⟩, ?_, ?_, ?_⟩
              · show upd (r 0) i (nI u) i = _
                rw [q_upd, q_up]
              · show upd (r 1) i (nI l) i = _
                rw [q_upd, q_up]
              · show upd (r 2) i (nI z) i = _
                rw [q_upd, q_up]
              · show upd (g 22) i (nI u) i = _
                rw [q_upd, q_up]
              · show upd (g 23) i (nI l) i = _
                rw [q_upd, q_up]
              · show upd (g 24) i (nI z) i = _
                rw [q_upd, q_up]
              · rw [q_up]; exact hu
              · rw [q_up]; exact hl
              · rw [q_up]; exact hz
            · obtain ⟨⟨a1, a2, a3⟩, ⟨b1, b2, b3⟩, c1, c2, c3⟩ := hi i (by omega)
              refine ⟨⟨?_, ?_, ?_⟩, ⟨?_, ?_, ?_⟩, ?_, ?_, ?_⟩
              · show upd (r 0) q (nI u) i = _
                rw [q_updn ci, q_upn ci]; exact a1
              · show upd (r 1) q (nI l) i = _
                rw [q_updn ci, q_upn ci]; exact a2
              · show upd (r 2) q (nI z) i = _
                rw [q_updn ci, q_upn ci]; exact a3
              · show upd (g 22) q (nI u) i = _
                rw [q_updn ci, q_upn ci]; exact b1
              · show upd (g 23) q (nI l) i = _
                rw [q_updn ci, q_upn ci]; exact b2
              · show upd (g 24) q (nI z) i = _
                rw [q_updn ci, q_upn ci]; exact b3
              · rw [q_upn ci]; exact c1
              · rw [q_upn ci]; exact c2
              · rw [q_upn ci]; exact c3
      · rw [q_inF (by rw [show (0 : Int64).toInt = 0 by decide, show (1 : Int64).toInt = 1 by decide]; omega), q_b1, if_pos i00]
        by_cases c : x3 < 0
        · rw [if_pos c]
          exact ⟨_, _, _, rfl, rfl, h⟩
        · rw [if_neg c, if_neg (by rw [q_le x3 1 (by decide)]; rw [q_l x3 0 (by decide)] at c; omega)]
          exact ⟨_, _, _, rfl, rfl, h⟩
    · rw [hx2, hm3, q_b1, q_b1, if_pos i00, if_pos i00]
      exact ⟨_, _, _, rfl, rfl, h⟩
  · rw [hx, hm2, q_b1, q_b1, if_pos i00, if_neg i10]
    exact ⟨_, _, _, rfl, rfl, h⟩
