theorem k_cutin (x : Int32) : (∃ v : Nat, 1 ≤ v ∧ v ≤ 8 ∧ x = nI v ∧ f_X3_isCut x = some 1 ∧ f_X4_in (Int32.toInt64 x) 1 8 = some 1) ∨ (f_X3_isCut x = some 0 ∧ f_X4_in (Int32.toInt64 x) 1 8 = some 0) := by
  have t1 : (1 : Int64).toInt = 1 := by decide
  have t8 : (8 : Int64).toInt = 8 := by decide
  rcases k_cut x with ⟨v, h1, h2, rfl, a, b⟩ | ⟨a, b⟩
  · exact Or.inl ⟨v, h1, h2, rfl, a, q_inT (by rw [t1, t8, q_ti (by omega)]; omega)⟩
  · right
    refine ⟨a, ?_⟩
    rcases q_rng x 1 8 (by decide) with ⟨j, j1, j2, rfl⟩ | h
    · exfalso
      have : ∀ v : Fin 8, f_X3_isCut (nI (v.val + 1)) = some 1 := by decide
      have t := this ⟨j - 1, by omega⟩
      rw [show j - 1 + 1 = j by omega] at t
      rw [t] at a
      exact absurd a (by decide)
    · exact q_inF (by rw [t1, t8]; omega)
section ZX
variable {s0 : zS} {b c i : Nat}
theorem x_text {t n2 : zS} {X : Option ((Int32 × zS) ⊕ (Int32 × zS))} (h2 : n2 = va_up (va_up t 8 (fun _ => 0)) 9 (fun _ => 0)) (hX : zXr s0 i c 0 0 n2 = X) : f_X2_readText t s0 (nI i) (nI c) = zq_s2_2 X (fun y11 n12 => if y11 = 5 then (some ((-9), n12)) else (some (nI c, n12))) (fun y14 n15 => some (y14, n15)) := by
  subst h2
  subst hX
  rfl
theorem x_textF {t n2 : zS} {p : Nat} (h2 : n2 = va_up (va_up t 8 (fun _ => 0)) 9 (fun _ => 0)) (h : zFl (zXr s0 i c 0 0 n2) c p) : ∃ t', f_X2_readText t s0 (nI i) (nI c) = some (nI p, t') ∧ zB4 t' := by
  rcases h with ⟨st, n', hX, h5, hp, hb⟩ | ⟨n', hX, hb⟩
  · refine ⟨n', ?_, hb⟩
    rw [x_text h2 hX, hp]
    show (if nI st = 5 then _ else _) = _
    rw [if_neg (show ¬ nI st = 5 by rw [show (5 : Int32) = nI 5 from rfl, nI_eq (by omega) (by omega)]; omega)]
  · refine ⟨n', ?_, hb⟩
    rw [x_text h2 hX]
    rfl
theorem j_reads {t g : zS} (hic : i + c ≤ 60) (hb : b + c ≤ 240) (hb4 : zB4 t) (hs : ∀ j, j < c → g 28 (b + j) = s0 0 (i + j)) : (∃ (t' g' : zS) (p : Nat), f_X2_readText t s0 (nI i) (nI c) = some (nI p, t') ∧ f_X4_readsWall g (nI b) (nI c) = some (0, g') ∧ g' 10 0 = nI p ∧ p ≤ 60 ∧ zB4 t' ∧ (∀ z, (z < 10 ∨ 16 < z) → g' z = g z)) ∨ (∃ (t' g' : zS) (m L C : Nat) (F Z K V hm : Nat → Nat), 1 ≤ m ∧ 1 ≤ C ∧ C ≤ 8 ∧ f_X2_readText t s0 (nI i) (nI c) = some (-9, t') ∧ f_X4_readsWall g (nI b) (nI c) = some (1, g') ∧ zP t' g' m L F Z K V hm ∧ (∀ j, j < m → 1 ≤ Z j) ∧ zB4 t' ∧ g' 12 0 = nI m ∧ g' 11 0 = nI C ∧ t' 10 0 = nI C ∧ (∀ y, y < 15 → t' 6 y = nI (zpl C y) ∧ t' 7 y = nI (zsl C y)) ∧ (∀ z, (z < 10 ∨ 16 < z) → g' z = g z)) := by
  obtain ⟨n2, hn2⟩ : ∃ n2 : zS, n2 = va_up (va_up t 8 (fun _ => 0)) 9 (fun _ => 0) := ⟨_, rfl⟩
  obtain ⟨g3, hg3⟩ : ∃ g3 : zS, g3 = va_up (va_up (va_up g 10 (fun _ => nI 0)) 12 (fun _ => 0)) 13 (fun _ => 0) := ⟨_, rfl⟩
  have hb2 : zB4 n2 := by
    subst hn2
    exact zB4_e hb4 rfl
  have f3 : ∀ z, (z < 10 ∨ 16 < z) → g3 z = g z := fun z hz => by
    rw [hg3, q_upn (by omega), q_upn (by omega), q_upn (by omega)]
  have s3 : ∀ j, j < c → g3 28 (b + j) = s0 0 (i + j) := fun j hj => by rw [f3 28 (by omega)]; exact hs j hj
  have e10 : g3 10 0 = nI 0 := by rw [hg3]; rfl
  have hfail : ∀ (g' : zS) (p : Nat), f_X4_readsWall g (nI b) (nI c) = some (0, g') → g' 10 0 = nI p → p ≤ c → zFl (zXr s0 i c 0 0 n2) c p → (∀ z, (z < 10 ∨ 16 < z) → g' z = g z) → (∃ (t' g' : zS) (p : Nat), f_X2_readText t s0 (nI i) (nI c) = some (nI p, t') ∧ f_X4_readsWall g (nI b) (nI c) = some (0, g') ∧ g' 10 0 = nI p ∧ p ≤ 60 ∧ zB4 t' ∧ (∀ z, (z < 10 ∨ 16 < z) → g' z = g z)) := by
    intro g' p h1 h2 h3 h4 h5
    obtain ⟨t', a, b⟩ := x_textF hn2 h4
    exact ⟨t', g', p, a, h1, h2, by omega, b, h5⟩
  have hco := m_code (g := g3) (p := 0) hb (by omega) e10 s3
  have hRW : f_X4_readsWall g (nI b) (nI c) = zq_b1 (f_X4_codeAt g3 (nI b) (nI c)) (fun r5 => if r5 = 119 then (zq_lt (va_up g3 10 (fun _ => ((g3 10 0) + 1))) (fun g7 => zq_b1 (f_X4_codeAt g7 (nI b) (nI c)) (fun r9 => zq_lt (va_up g7 11 (fun _ => (r9 - 48))) (fun g10 => zq_b1 (f_X4_in (Int32.toInt64 (g10 11 0)) 1 8) (fun r12 => if r12 = 0 then (some (0, g10)) else (zq_lt (va_up g10 10 (fun _ => ((g10 10 0) + 1))) (fun g14 => zq_b2 (f_X4_readsWall_L80 (nI b) (nI c) 100 1 g14) (fun y25 g26 => zq_z y25 (some (y25, g26)))))))))) else (some (0, g3))) := by
    subst hg3
    rfl
  rw [hco, q_b1] at hRW
  by_cases q0 : 0 < c
  rotate_left
  · left
    rw [if_neg q0, if_neg (by decide)] at hRW
    have e : c = 0 := by omega
    subst e
    exact hfail g3 0 hRW e10 (by omega) (Or.inl ⟨0, n2, zXr_e hic, by omega, rfl, hb2⟩) f3
  rw [if_pos q0] at hRW
  by_cases c119 : s0 0 (i + 0) = 119
  rotate_left
  · left
    rw [if_neg c119] at hRW
    refine hfail g3 0 hRW e10 (by omega) (Or.inr ⟨n2, zXr_6 hic q0 ?_, hb2⟩) f3
    unfold f_X2_takeCode
    rw [if_pos (show nI 0 = 0 from rfl), if_neg c119]
  have hX1 : zXr s0 i c 0 0 n2 = zXr s0 i c 1 1 n2 := zXr_n hic q0 (by omega) (by
    unfold f_X2_takeCode
    rw [if_pos (show nI 0 = 0 from rfl), if_pos c119]
    rfl)
  rw [if_pos c119, q_lt, e10, nI_1] at hRW
  have hco2 := m_code (g := va_up g3 10 (fun _ => nI (0 + 1))) (p := 1) (i := i) (s0 := s0) hb (by omega) rfl (fun j hj => s3 j hj)
  rw [hco2, q_b1, q_lt] at hRW
  by_cases q1 : 1 < c
  rotate_left
  · left
    rw [if_neg q1] at hRW
    have e : c = 1 := by omega
    refine hfail (va_up (va_up g3 10 (fun _ => nI (0 + 1))) 11 (fun _ => (-9) - 48)) 1 ?_ rfl (by omega) ?_ (fun z hz => by rw [q_upn (by omega), q_upn (by omega), f3 z hz])
    · rw [hRW, show f_X4_in (Int32.toInt64 ((va_up (va_up g3 10 (fun _ => nI (0 + 1))) 11 (fun _ => (-9) - 48)) 11 0)) 1 8 = some 0 from by
        show f_X4_in (Int32.toInt64 ((-9) - 48)) 1 8 = some 0
        decide]
      rfl
    · rw [hX1]
      subst e
      exact Or.inl ⟨1, n2, zXr_e hic, by omega, rfl, hb2⟩
  rw [if_pos q1, q_up] at hRW
  have tc1 : ∀ R, f_X2_takeCut n2 (s0 0 (i + 1) - 48) = some R → f_X2_takeCode n2 (nI 1) (s0 0 (i + 1)) = some R := by
    intro R hR
    unfold f_X2_takeCode
    rw [if_neg (show ¬ nI 1 = 0 by decide), if_pos (show nI 1 = 1 from rfl), hR]
    rfl
  rcases k_cutin (s0 0 (i + 1) - 48) with ⟨v, v1, v2, ev, hx, hm⟩ | ⟨hx, hm⟩
  rotate_left
  · left
    rw [hm, q_b1, if_pos i00] at hRW
    refine hfail _ 1 hRW rfl (by omega) ?_ (fun z hz => by rw [q_upn (by omega), q_upn (by omega), f3 z hz])
    rw [hX1]
    refine Or.inr ⟨n2, zXr_6 hic q1 (tc1 _ ?_), hb2⟩
    unfold f_X2_takeCut
    rw [hx, q_b1, if_pos i00]
  rw [hm, q_b1, if_neg i10, q_lt] at hRW
  obtain ⟨n5, a1, a2, a3, a4⟩ := x_frame (n := n2) (C := v) ⟨v1, v2⟩
  have hX2 : zXr s0 i c 0 0 n2 = zXr s0 i c 2 2 n5 := by
    rw [hX1]
    refine zXr_n hic q1 (by omega) (tc1 _ ?_)
    unfold f_X2_takeCut
    rw [hx, q_b1, if_neg i10, ev, a1]
    rfl
  have hRW : f_X4_readsWall g (nI b) (nI c) = zq_b2 (f_X4_readsWall_L80 (nI b) (nI c) 100 1 (va_up (va_up (va_up g3 10 (fun _ => nI (0 + 1))) 11 (fun _ => s0 0 (i + 1) - 48)) 10 (fun _ => nI 1 + 1))) (fun y25 g26 => zq_z y25 (some (y25, g26))) := hRW
  rw [ev, nI_1] at hRW
  obtain ⟨g4, hg4⟩ : ∃ g4 : zS, g4 = va_up (va_up (va_up g3 10 (fun _ => nI (0 + 1))) 11 (fun _ => nI v)) 10 (fun _ => nI (1 + 1)) := ⟨_, rfl⟩
  rw [← hg4] at hRW
  have f4 : ∀ z, (z < 10 ∨ 16 < z) → g4 z = g z := fun z hz => by
    rw [hg4, q_upn (by omega), q_upn (by omega), q_upn (by omega), f3 z hz]
  have e11 : g4 11 0 = nI v := by rw [hg4]; rfl
  have hP0 : zP n5 g4 0 0 (fun _ => 0) (fun _ => 0) (fun _ => 0) (fun _ => 0) (fun _ => 0) := by
    refine ⟨by omega, rfl, fun j hj => by omega, rfl, fun j _ hj => by omega, fun l hl => by omega, ?_, ?_, ?_, fun j hj => by omega, fun l hl => by omega⟩
    · rw [a4 8 (by decide) (by decide) (by decide), hn2]; rfl
    · rw [a4 9 (by decide) (by decide) (by decide), hn2]; rfl
    · rw [hg4, hg3]; rfl
  rcases j_mods (s0 := s0) hic hb 4 0 n5 g4 0 _ _ _ _ _ 2 2 100 (by omega) (by omega) (Or.inl ⟨rfl, rfl⟩) hP0 (by omega) (fun j hj => by omega) (zB4_e hb2 (a4 3 (by decide) (by decide) (by decide))) (by rw [hg4, hg3]; rfl) (by rw [hg4]; rfl) (fun j hj => by rw [f4 28 (by omega)]; exact hs j hj) with ⟨g', p', b1, b2, b3, b4, b5⟩ | ⟨n', g', m', L', F', Z', K', V', hm', b1, b2, b3, b4, b5, b6, b7, b8, b9, b10, b11⟩
  · left
    refine hfail g' p' ?_ b2 b3 ?_ (fun z hz => by rw [b5 z (by omega), f4 z hz])
    · rw [hRW, b1]
      rfl
    · rw [hX2]
      exact b4
  · right
    refine ⟨n', g', m', L', v, F', Z', K', V', hm', b1, v1, v2, ?_, ?_, b4, b5, b6, b7, ?_, ?_, ?_, fun z hz => by rw [b8 z (by omega), f4 z hz]⟩
    · rw [x_text hn2 (hX2.trans b3)]
      rfl
    · rw [hRW, b2]
      rfl
    · rw [b8 11 (by omega), e11]
    · rw [b11]
      exact a3
    · intro y hy
      rw [b9, b10]
      exact a2 y hy
theorem m_lay1 {g : zS} {L j : Nat} {F Z V hm : Nat → Nat} (hj : j < 4) (hl : F j + Z j ≤ 16) (hz : Z j ≤ 4) (h6 : g 6 j = nI (Z j)) (h16 : ∀ l, l < F j + Z j → g 16 l = nI (V l)) (hh : ∀ e, e < Z j → hm (F j + e) = j) (h0 : ∀ l, l < F j → g 8 l = nI (V l) ∧ g 9 l = nI (hm l)) : ∃ g', f_X4_wall_L166 (nI j) 100 (nI (F j)) 0 g = some (nI (F j + Z j), g') ∧ (∀ z, z ≠ 8 → z ≠ 9 → g' z = g z) ∧ (∀ l, l < F j + Z j → g' 8 l = nI (V l) ∧ g' 9 l = nI (hm l)) := by
  obtain ⟨x, d1, d2⟩ := zl_inv (fun k e (x : Int32 × zS) => f_X4_wall_L166 (nI j) k x.1 (nI e) x.2) (Z j) (fun e x => x.1 = nI (F j + e) ∧ (∀ z, z ≠ 8 → z ≠ 9 → x.2 z = g z) ∧ (∀ l, l < F j + e → x.2 8 l = nI (V l) ∧ x.2 9 l = nI (hm l))) (fun x => x)
    (fun k x hI => by
      obtain ⟨w, x⟩ := x
      obtain ⟨i1, i2, i3⟩ := hI
      have i2 : ∀ z, z ≠ 8 → z ≠ 9 → x z = g z := i2
      show f_X4_wall_L166 (nI j) (k + 1) w (nI (Z j)) x = some (w, x)
      rw [f_X4_wall_L166, q_rd hj (by decide), i2 6 (by decide) (by decide), h6, if_pos (nI_le (Nat.le_refl _) (by omega))])
    (fun k e x he hI => by
      obtain ⟨w, x⟩ := x
      obtain ⟨i1, i2, i3⟩ := hI
      have i1 : w = nI (F j + e) := i1
      have i2 : ∀ z, z ≠ 8 → z ≠ 9 → x z = g z := i2
      have i3 : ∀ l, l < F j + e → x 8 l = nI (V l) ∧ x 9 l = nI (hm l) := i3
      refine ⟨(nI (F j + e + 1), va_up (va_up x 8 (upd (x 8) (F j + e) (nI (V (F j + e))))) 9 (upd (x 9) (F j + e) (nI j))), ⟨rfl, ?_, ?_⟩, ?_⟩
      · intro z z1 z2
        show va_up (va_up x 8 _) 9 _ z = g z
        rw [q_upn z2, q_upn z1, i2 z z1 z2]
      · intro l l1
        show upd (x 8) (F j + e) (nI (V (F j + e))) l = nI (V l) ∧ upd (x 9) (F j + e) (nI j) l = nI (hm l)
        by_cases q : l = F j + e
        · subst q
          rw [q_upd, q_upd, hh e he]
          exact ⟨rfl, rfl⟩
        · rw [q_updn q, q_updn q]
          exact i3 l (by omega)
      · show f_X4_wall_L166 (nI j) (k + 1) w (nI e) x = f_X4_wall_L166 (nI j) k (nI (F j + e + 1)) (nI (e + 1)) _
        rw [f_X4_wall_L166, q_rd hj (by decide), i2 6 (by decide) (by decide), h6, if_neg (nI_ge he (by omega)), i1, q_rd (show F j + e < 16 by omega) (by decide), i2 16 (by decide) (by decide), h16 _ (by omega), q_in (show F j + e < 16 by omega) (by decide), q_lt, q_in (show F j + e < 16 by omega) (by decide), q_lt, q_cl (by omega), nI_1, nI_1]
        rfl)
    (Z j) 0 (nI (F j), g) 100 (by omega) ⟨rfl, fun _ _ _ => rfl, fun l hl => h0 l hl⟩ (by omega)
  refine ⟨x.2, ?_, d1.2.1, d1.2.2⟩
  rw [← d1.1]
  exact d2
theorem m_lay {n g : zS} {m L : Nat} {F Z K V hm : Nat → Nat} (hP : zP n g m L F Z K V hm) (h1 : g 1 0 = nI m) : ∃ g', f_X4_wall_L109 100 0 0 g = some g' ∧ (∀ z, (z < 4 ∨ 9 < z) → g' z = g z) ∧ (∀ j, j < m → g' 4 j = nI (K j) ∧ g' 5 j = nI (F j) ∧ g' 6 j = nI (Z j) ∧ g' 7 j = nI 0) ∧ (∀ l, l < L → g' 8 l = nI (V l) ∧ g' 9 l = nI (hm l)) := by
  obtain ⟨a1, a2, a3, a4, a5, a6, a7, a8, a9, a10, a11⟩ := hP
  have mono := zF_mono (fun j hj => (a3 j hj).1)
  have f4 := zF_4 a2 (fun j hj => ⟨(a3 j hj).1, (a3 j hj).2.1⟩)
  obtain ⟨x, d1, d2⟩ := zl_inv (fun k j (x : Int32 × zS) => f_X4_wall_L109 k x.1 (nI j) x.2) m (fun j x => x.1 = nI (F j) ∧ (∀ z, (z < 4 ∨ 9 < z) → x.2 z = g z) ∧ (∀ e, e < j → x.2 4 e = nI (K e) ∧ x.2 5 e = nI (F e) ∧ x.2 6 e = nI (Z e) ∧ x.2 7 e = nI 0) ∧ (∀ l, l < F j → x.2 8 l = nI (V l) ∧ x.2 9 l = nI (hm l))) (fun x => x.2)
    (fun k x hI => by
      obtain ⟨w, x⟩ := x
      obtain ⟨i1, i2, i3, i4⟩ := hI
      have i2 : ∀ z, (z < 4 ∨ 9 < z) → x z = g z := i2
      show f_X4_wall_L109 (k + 1) w (nI m) x = some x
      rw [f_X4_wall_L109, i2 1 (by omega), h1, if_pos (nI_le (Nat.le_refl _) (by omega))])
    (fun k j x hj hI => by
      obtain ⟨w, x⟩ := x
      obtain ⟨i1, i2, i3, i4⟩ := hI
      have i1 : w = nI (F j) := i1
      have i2 : ∀ z, (z < 4 ∨ 9 < z) → x z = g z := i2
      have i3 : ∀ e, e < j → x 4 e = nI (K e) ∧ x 5 e = nI (F e) ∧ x 6 e = nI (Z e) ∧ x 7 e = nI 0 := i3
      have i4 : ∀ l, l < F j → x 8 l = nI (V l) ∧ x 9 l = nI (hm l) := i4
      have hj4 : j < 4 := by omega
      obtain ⟨-, -, -, -, b5, b6⟩ := a10 j hj
      have hFj := (a3 j hj).1
      have hZj := (a3 j hj).2.1
      have hFL := mono m (Nat.le_refl _) (j + 1) (by omega)
      have hF16 := f4 m (Nat.le_refl _)
      obtain ⟨x0, hx0⟩ : ∃ x0 : zS, x0 = va_up (va_up (va_up (va_up x 4 (upd (x 4) j (nI (K j)))) 6 (upd (x 6) j (nI (Z j)))) 5 (upd (x 5) j (nI (F j)))) 7 (upd (x 7) j 0) := ⟨_, rfl⟩
      obtain ⟨g', r1, r2, r3⟩ := m_lay1 (g := x0) (L := L) (j := j) (F := F) (Z := Z) (V := V) (hm := hm) hj4 (by omega) hZj (by rw [hx0]; exact q_upd) (fun l hl => by
        rw [hx0]
        show x 16 l = _
        rw [i2 16 (by omega)]
        exact (a11 l (by omega)).2.2) (fun e he => a5 j e hj he) (fun l hl => by
        rw [hx0]
        exact i4 l hl)
      refine ⟨(nI (F j + Z j), g'), ⟨?_, ?_, ?_, ?_⟩, ?_⟩
      · show nI (F j + Z j) = nI (F (j + 1))
        rw [hFj]
      · intro z hz
        show g' z = g z
        rw [r2 z (by omega) (by omega), hx0, q_upn (by omega), q_upn (by omega), q_upn (by omega), q_upn (by omega), i2 z hz]
      · intro e he
        show g' 4 e = _ ∧ g' 5 e = _ ∧ g' 6 e = _ ∧ g' 7 e = _
        rw [r2 4 (by decide) (by decide), r2 5 (by decide) (by decide), r2 6 (by decide) (by decide), r2 7 (by decide) (by decide), hx0]
        show upd (x 4) j (nI (K j)) e = _ ∧ upd (x 5) j (nI (F j)) e = _ ∧ upd (x 6) j (nI (Z j)) e = _ ∧ upd (x 7) j 0 e = _
        by_cases q : e = j
        · subst q
          rw [q_upd, q_upd, q_upd, q_upd]
          exact ⟨rfl, rfl, rfl, rfl⟩
        · rw [q_updn q, q_updn q, q_updn q, q_updn q]
          exact i3 e (by omega)
      · intro l hl
        exact r3 l (by rw [← hFj]; exact hl)
      · show f_X4_wall_L109 (k + 1) w (nI j) x = f_X4_wall_L109 k (nI (F j + Z j)) (nI (j + 1)) g'
        rw [f_X4_wall_L109, i2 1 (by omega), h1, if_neg (nI_ge hj (by omega)), q_rd hj4 (by decide), i2 14 (by omega), b5, q_in hj4 (by decide), q_lt, q_rd hj4 (by decide), show (va_up x 4 (upd (x 4) (Int32.toNatClampNeg (nI j)) (nI (K j)))) 15 = x 15 from rfl, i2 15 (by omega), b6, q_in hj4 (by decide), q_lt, q_in hj4 (by decide), q_lt, q_in hj4 (by decide), q_lt, q_cl (by omega), i1, nI_1]
        show zq_b2 (f_X4_wall_L166 (nI j) 100 (nI (F j)) 0 (va_up (va_up (va_up (va_up x 4 (upd (x 4) j (nI (K j)))) 6 (upd (x 6) j (nI (Z j)))) 5 (upd (x 5) j (nI (F j)))) 7 (upd (x 7) j 0))) (fun y41 g42 => f_X4_wall_L109 k y41 (nI (j + 1)) g42) = _
        rw [← hx0, r1, q_b2])
    m 0 (nI 0, g) 100 (by omega) ⟨by rw [a2], fun _ _ => rfl, fun e he => by omega, fun l hl => by rw [a2] at hl; omega⟩ (by omega)
  refine ⟨x.2, d2, d1.2.1, d1.2.2.1, fun l hl => d1.2.2.2 l (by rw [← a4]; exact hl)⟩
end ZX
theorem p_wall {o : zS} {s : zS4} {n : zS} {t : zS} {r : zS} {g : zS} (h : zRel o s n t r g) (x1 x2 x3 x4 : Int32) : ∃ (r0 : Int32) (o' : zS) (n' : zS) (t' : zS) (r' : zS) (g' : zS), f_X3_wall o s n t r x1 x2 x3 x4 = some (r0, o', n', t', r') ∧ f_X4_wall g x1 x2 x3 x4 = some (r0, g') ∧ zRel o' s n' t' r' g' := by
  obtain ⟨e1, e2, e3, e4, e5, -⟩ := id h
  unfold f_X3_wall f_X4_wall
  rw [q_lt]
  rcases k_sheet x1 with ⟨k, hk, rfl, hx, hm2⟩ | ⟨hx, hm2⟩
  rotate_left
  · rw [hx, hm2, q_b1, q_b1, if_pos i00, if_neg i10]
    exact ⟨_, _, _, _, _, _, rfl, rfl, zRel_f h 0⟩
  rw [hx, hm2, q_b1, q_b1, if_neg i10, if_pos i00]
  rcases k_lane x2 with ⟨w, hw, rfl, hx, hm2⟩ | ⟨hx, hm2⟩
  rotate_left
  · rw [hx, hm2, q_b1, q_b1, if_pos i00, if_pos i00]
    exact ⟨_, _, _, _, _, _, rfl, rfl, zRel_f h 0⟩
  rw [hx, hm2, q_b1, q_b1, if_neg i10, if_neg i10, q_in hk (by decide), q_cl (by omega)]
  rcases j_cells2 hk (e5 k hk) (nI w) x3 x4 with ⟨v, v1, v2, hx, hm2⟩ | ⟨i, c, rfl, rfl, hi, hx, hm2, hcell⟩
  · rw [hx, hm2, q_b1, q_b2, if_neg (nI_ne0 v1 (by omega))]
    have hv : ¬ (0 ≤ (-10) - nI v) := by
      have : ∀ v : Fin 5, ¬ (0 ≤ (-10) - nI v.val) := by decide
      exact this ⟨v, by omega⟩
    rw [if_neg hv]
    exact ⟨_, _, _, _, _, _, rfl, rfl, zRel_f2 h (nI v) 0⟩
  rw [hx, hm2, q_b1, q_b2, if_pos i00, if_pos (by decide), show (60 : Int32) = nI 60 from rfl, pk_mul, nI_add]
  rcases j_reads (t := t) (g := g) (s0 := s k) (b := 60 * k + i) hi (by omega) e4 (fun j hj => by rw [hcell (i + j) (by omega) (by omega), show 60 * k + (i + j) = 60 * k + i + j by omega]) with ⟨t', g', p, a1, a2, a3, a4, a5, a6⟩ | ⟨t', g', m, L, C, F, Z, K, V, hm, b1, b2, b3, b4, b5, b6, b7, b8, b9, b10, b11, b12, b13⟩
  · have np : ¬ nI p = -9 := by
      have : ∀ p : Fin 61, ¬ nI p.val = -9 := by decide
      exact this ⟨p, by omega⟩
    rw [a1, a2, q_b2, q_b2, if_neg np, if_pos i00, a3]
    refine ⟨_, _, _, _, _, _, rfl, rfl, zRel_t (zRel_g (zRel_f h 0) (fun z hz => ?_)) a5⟩
    by_cases z0 : z = 0
    · subst z0
      rw [q_up, q_up]
    · rw [q_upn z0, q_upn z0, a6 z (by omega)]
  · have hDt : zDat m L C F Z K (fun _ => 0) V hm := by
      obtain ⟨p1, p2, p3, p4, p5, p6, -⟩ := b6
      exact ⟨p1, p2, fun j hj => ⟨(p3 j hj).1, b7 j hj, (p3 j hj).2.1, (p3 j hj).2.2, Nat.zero_le 1⟩, p4, p5, p6, fun hm0 => by omega, fun _ => ⟨b2, b3⟩⟩
    have hWt : zWal t' m L C F Z K (fun _ => 0) V hm := by
      obtain ⟨p1, p2, p3, p4, p5, p6, p7, p8, p9, p10, p11⟩ := b6
      exact ⟨p7, p8, b11, fun j hj => ⟨(p10 j hj).1, (p10 j hj).2.1, (p10 j hj).2.2.1, (p10 j hj).2.2.2.1⟩, fun l hl => ⟨(p11 l hl).1, (p11 l hl).2.1⟩, fun _ => b12⟩
    obtain ⟨n', c1, c2, c3⟩ := x_likeW (n := n) hDt hWt b8
    have h13 : g' 13 0 = nI L := b6.2.2.2.2.2.2.2.2.1
    obtain ⟨g1, hg1⟩ : ∃ g1 : zS, g1 = va_up (va_up (va_up g' 1 (fun _ => nI m)) 2 (fun _ => nI L)) 3 (fun _ => nI C) := ⟨_, rfl⟩
    obtain ⟨g2, d1, d2, d3, d4⟩ := m_lay (n := t') (g := g1) (zP_g b6 (fun z z1 z2 => by rw [hg1, q_upn (by omega), q_upn (by omega), q_upn (by omega)])) (by rw [hg1]; rfl)
    have hMw : zq_lt (va_up g' 1 (fun _ => (g' 12 0))) (fun g15 => zq_lt (va_up g15 2 (fun _ => (g15 13 0))) (fun g16 => zq_lt (va_up g16 3 (fun _ => (g16 11 0))) (fun g17 => zq_b1 (f_X4_wall_L109 100 0 0 g17) (fun g44 => zq_lt (va_up g44 21 (fun _ => 0)) (fun g45 => zq_b2 (f_X4_refused g45 (g45 1 0)) (fun r47 g48 => some (r47, g48))))))) = some (nI m, va_up (va_up g2 21 (fun _ => 0)) 0 (fun _ => 0)) := by
      show zq_b1 (f_X4_wall_L109 100 0 0 (va_up (va_up (va_up g' 1 (fun _ => (g' 12 0))) 2 (fun _ => (g' 13 0))) 3 (fun _ => (g' 11 0)))) (fun g44 => some (g44 1 0, va_up (va_up g44 21 (fun _ => 0)) 0 (fun _ => 0))) = _
      rw [b9, h13, b10, ← hg1, d1, q_b1, d2 1 (by omega), hg1]
      rfl
    rw [b4, b5, q_b2, q_b2, if_pos rfl, if_neg i10, c1, q_b1, q_lt, c2.1, hMw]
    have f2 : ∀ z, (9 < z) → (16 < z) → g2 z = g z := fun z z1 z2 => by rw [d2 z (by omega), hg1, q_upn (by omega), q_upn (by omega), q_upn (by omega), b13 z (by omega)]
    refine ⟨_, _, _, _, _, _, rfl, rfl, ?_, rfl, c3, b8, ?_, m, L, C, F, Z, K, fun _ => 0, V, hm, 0, fun _ => 0, fun _ => 0, fun _ => 0, hDt, c2, ?_, ?_⟩
    · show o 5 0 = g2 30 0
      rw [f2 30 (by omega) (by omega)]
      exact e1
    · intro j hj
      have := e5 j hj
      unfold zSh1 at this ⊢
      rw [q_upn (by decide), q_upn (by decide), q_upn (by decide), q_upn (by decide), q_upn (by decide), q_upn (by decide), f2 26 (by omega) (by omega), f2 27 (by omega) (by omega), f2 28 (by omega) (by omega)]
      exact this
    · refine ⟨?_, ?_, ?_, d3, d4⟩
      · show g2 1 0 = nI m
        rw [d2 1 (by omega), hg1]; rfl
      · show g2 2 0 = nI L
        rw [d2 2 (by omega), hg1]; rfl
      · show g2 3 0 = nI C
        rw [d2 3 (by omega), hg1]; rfl
    · exact ⟨by omega, rfl, rfl, fun i hi => by omega⟩
