/-- what a pair may be -/
def zAct (x y : Int32) : Prop := (∃ l v : Nat, l < 16 ∧ v ≤ 9 ∧ y = nI l ∧ x = nI v) ∨ (∃ v : Nat, 1 ≤ v ∧ v ≤ 8 ∧ y = 20 ∧ x = nI v) ∨ (∃ m : Nat, m < 4 ∧ y = nI (30 + m))
theorem k_act (x y : Int32) : (f_X3_isAct x y = some 1 ∧ f_X4_isAsTold x y = some 1 ∧ zAct x y) ∨ (f_X3_isAct x y = some 0 ∧ f_X4_isAsTold x y = some 0) := by
  have t0 : (0 : Int64).toInt = 0 := by decide
  have t15 : (15 : Int64).toInt = 15 := by decide
  have t30 : (30 : Int64).toInt = 30 := by decide
  have t33 : (33 : Int64).toInt = 33 := by decide
  unfold f_X3_isAct f_X4_isAsTold
  rcases q_rng y 0 15 (by decide) with ⟨l, -, hl, rfl⟩ | hy
  · rw [if_neg (nI_pos (by omega)), if_neg (show ¬ 16 ≤ nI l from nI_ge (b := 16) (by omega) (by decide)), q_inT (by rw [t0, t15, q_ti (by omega)]; omega), q_b1, if_neg i10]
    rcases k_level x with ⟨v, hv, rfl, a, b⟩ | ⟨a, b⟩
    · left
      rw [a, b]
      exact ⟨rfl, rfl, Or.inl ⟨l, v, by omega, hv, rfl, rfl⟩⟩
    · right
      rw [a, b]
      exact ⟨rfl, rfl⟩
  · have hX : (if y < 0 then f_X3_isAct_J15 x y else if 16 ≤ y then f_X3_isAct_J15 x y else zq_b1 (f_X3_isLevel x) (fun r11 => zq_z r11 (some r11))) = f_X3_isAct_J15 x y := by
      by_cases c : y < 0
      · rw [if_pos c]
      · rw [if_neg c, if_pos (by rw [q_re y 16 (by decide)]; rw [q_l y 0 (by decide)] at c; omega)]
    rw [hX, q_inF (by rw [t0, t15]; omega), q_b1, if_pos i00]
    unfold f_X3_isAct_J15
    by_cases c20 : y = 20
    · rw [if_pos c20, if_pos c20]
      rcases k_cut x with ⟨v, h1, h2, rfl, a, b⟩ | ⟨a, b⟩
      · left
        rw [a, b]
        exact ⟨rfl, rfl, Or.inr (Or.inl ⟨v, h1, h2, c20, rfl⟩)⟩
      · right
        rw [a, b]
        exact ⟨rfl, rfl⟩
    · rw [if_neg c20, if_neg c20]
      rcases q_rng y 30 33 (by decide) with ⟨j, j1, j2, rfl⟩ | hj
      · rw [if_neg (show ¬ nI j < 30 from nI_nlt (b := 30) j1 (by omega)), if_neg (show ¬ 34 ≤ nI j from nI_ge (b := 34) (by omega) (by decide)), q_inT (by rw [t30, t33, q_ti (by omega)]; omega), q_b1, if_neg i10]
        by_cases cx : x = 0
        · left
          rw [if_pos cx]
          exact ⟨rfl, rfl, Or.inr (Or.inr ⟨j - 30, by omega, by rw [show 30 + (j - 30) = j by omega]⟩)⟩
        · right
          rw [if_neg cx]
          exact ⟨rfl, rfl⟩
      · rw [q_inF (by rw [t30, t33]; omega), q_b1, if_pos i00]
        right
        refine ⟨?_, rfl⟩
        by_cases c : y < 30
        · rw [if_pos c]
        · rw [if_neg c, if_pos]
          rw [q_re y 34 (by decide)]
          rw [q_l y 30 (by decide)] at c
          omega
theorem k_fig : ∀ v : Fin 10, f_X4_isFigure (nI v.val) = some 1 := by decide
theorem k_ct : ∀ v : Fin 8, f_X4_isCut (nI (v.val + 1)) = some 1 := by decide
section ZD
variable {n g : zS} {M L C : Nat} {F Z K dd V hm : Nat → Nat}
theorem j_act (hD : zDat M L C F Z K dd V hm) (hW : zWal n M L C F Z K dd V hm) (hM : zMod g M L C F Z K dd V hm) (hp : 0 < M) (hb : zB4 n) {x y : Int32} (hxy : zAct x y) : (∃ (n' g' : zS) (C' : Nat) (dd' V' : Nat → Nat), f_X2_canAct n x y = some (1, n') ∧ f_X4_doesPair g x y = some (1, g') ∧ zDat M L C' F Z K dd' V' hm ∧ zWal n' M L C' F Z K dd' V' hm ∧ zMod g' M L C' F Z K dd' V' hm ∧ zB4 n' ∧ (∀ c, c ≠ 3 → c ≠ 7 → c ≠ 8 → g' c = g c)) ∨ (f_X2_canAct n x y = some (0, n) ∧ f_X4_doesPair g x y = some (0, g)) := by
  have hL := hD.l16
  unfold f_X2_canAct f_X4_doesPair
  rcases hxy with ⟨l, v, hl, hv, rfl, rfl⟩ | ⟨v, v1, v2, rfl, rfl⟩ | ⟨m, hm4, rfl⟩
  · rw [if_neg (show ¬ nI l = 20 by rw [show (20 : Int32) = nI 20 from rfl, nI_eq (by omega) (by omega)]; omega), if_pos (show nI l < 30 from nI_lt (b := 30) (by omega) (by decide)), if_neg (show ¬ 16 ≤ nI l from nI_ge (b := 16) hl (by decide))]
    unfold f_X4_level
    rcases k_lamp hL hW.2.1 hM.2.1 (nI l) with ⟨l', hl', e, hx, hm2⟩ | ⟨hx, hm2⟩
    · rw [nI_eq (by omega) (by omega)] at e
      subst e
      rw [hx, hm2, q_b1, q_b1, if_neg i10, if_pos i00, k_fig ⟨v, by omega⟩, q_b1, if_neg i10, q_rd hl (by decide), q_in hl (by decide), q_lt, q_in hl (by decide), q_lt, q_b2, (hM.2.2.2.2 l hl').1, q_cl (by omega)]
      have hV := hD.2.2.2.2.2.1 l hl'
      rw [if_neg (nI_pos (by omega))]
      left
      exact ⟨_, _, C, dd, va_up V l v, rfl, rfl, zDat_V hD (va_up_le hD.2.2.2.2.2.1 hv), zWal_V hW l v, zMod_V hM l v, zB4_e hb rfl, fun c c1 c2 c3 => q_upn c3⟩
    · rw [hx, hm2, q_b1, q_b1, if_pos i00, if_neg i10]
      right
      exact ⟨rfl, rfl⟩
  · rw [if_pos rfl, if_pos (show (16 : Int32) ≤ 20 by decide), if_pos rfl]
    obtain ⟨n', a1, a2, a3, a4⟩ := x_frame (n := n) (C := v) ⟨v1, v2⟩
    unfold f_X4_cut
    have hk := k_ct ⟨v - 1, by omega⟩
    have hk : f_X4_isCut (nI v) = some 1 := by
      rw [show v - 1 + 1 = v by omega] at hk
      exact hk
    rcases k_stands hD.1 hW.1 hM.1 with ⟨-, hs1, hs2⟩ | ⟨hp', -, -⟩
    rotate_left
    · omega
    rw [a1, hk, q_b1, q_b1, if_neg i10, if_neg hs2, q_lt, q_b2, hM.2.2.1]
    have hC := hD.2.2.2.2.2.2.2 hp
    rw [if_neg (nI_pos (by omega))]
    left
    exact ⟨_, _, v, dd, V, rfl, rfl, zDat_C hD hp ⟨v1, v2⟩, zWal_C hW a2 a3 a4, zMod_C hM, zB4_e hb (a4 3 (by decide) (by decide) (by decide)), fun c c1 c2 c3 => q_upn c1⟩
  · have e30 : nI (30 + m) - 30 = nI m := by
      rw [show (30 : Int32) = nI 30 from rfl, pk_sub (by omega), show 30 + m - 30 = m by omega]
    have ne : ¬ nI (30 + m) = 20 := by
      rw [show (20 : Int32) = nI 20 from rfl, nI_eq (by omega) (by omega)]
      omega
    rw [if_neg ne, if_neg (show ¬ nI (30 + m) < 30 from nI_nlt (b := 30) (by omega) (by omega)), if_pos (show 16 ≤ nI (30 + m) from nI_le (a := 16) (by omega) (by omega)), if_neg ne, e30]
    unfold f_X4_die
    rcases k_mod hD.1 hW.1 hM.1 (nI m) with ⟨m', hm', e, hx, hm2⟩ | ⟨hx, hm2⟩
    · rw [nI_eq (by omega) (by have := hD.1; omega)] at e
      subst e
      have hd := (hD.2.2.1 m hm').2.2.2.2
      have fin : ∀ v : Nat, v ≤ 1 → zDat M L C F Z K (va_up dd m v) V hm ∧ zWal (va_up n 3 (upd (n 3) m (nI v))) M L C F Z K (va_up dd m v) V hm ∧ zMod (va_up g 7 (upd (g 7) m (nI v))) M L C F Z K (va_up dd m v) V hm ∧ zB4 (va_up n 3 (upd (n 3) m (nI v))) ∧ (∀ c, c ≠ 3 → c ≠ 7 → c ≠ 8 → va_up g 7 (upd (g 7) m (nI v)) c = g c) := fun v hv =>
        ⟨zDat_d hD (va_up_le (fun j hj => (hD.2.2.1 j hj).2.2.2.2) hv), zWal_d hW m v, zMod_d hM m v, zB4_d hb m hv, fun c c1 c2 c3 => q_upn c2⟩
      rw [hx, hm2, q_b1, q_b1, if_neg i10, if_pos i00, q_rd hm4 (by decide), q_rd hm4 (by decide), (hW.2.2.2.1 m hm').2.2.2, (hM.2.2.2.1 m hm').2.2.2, q_cl (by omega)]
      left
      rcases (show dd m = 0 ∨ dd m = 1 by omega) with e | e
      · rw [e, if_pos (show nI 0 = (0 : Int32) from rfl), q_in hm4 (by decide), q_lt, q_in hm4 (by decide), q_lt, q_rd hm4 (by decide), q_up, q_upd, q_b2, if_neg (by decide)]
        exact ⟨_, _, C, va_up dd m 1, V, rfl, rfl, fin 1 (by omega)⟩
      · rw [e, if_neg (show ¬ nI 1 = (0 : Int32) by decide), q_in hm4 (by decide), q_lt, q_in hm4 (by decide), q_lt, q_rd hm4 (by decide), q_up, q_upd, q_b2, if_neg (by decide)]
        exact ⟨_, _, C, va_up dd m 0, V, rfl, rfl, fin 0 (by omega)⟩
    · rw [hx, hm2, q_b1, q_b1, if_pos i00, if_neg i10]
      right
      exact ⟨rfl, rfl⟩
theorem j_live {s0 g0 : zS} {k i c : Nat} (hc : c ≤ 20) (hic : i + 2 * c ≤ 60) (hk : k < 4) (hp : 0 < M) (hs : ∀ p, i ≤ p → p < i + 2 * c → s0 0 p = g0 28 (60 * k + p)) (ha : ∀ j, j < c → zAct (s0 0 (i + 2 * j)) (s0 0 (i + 2 * j + 1))) : ∀ d j (n g : zS) (C : Nat) (dd V : Nat → Nat) kx km, j + d = c → d < kx → d < km → zDat M L C F Z K dd V hm → zWal n M L C F Z K dd V hm → zMod g M L C F Z K dd V hm → zB4 n → (∀ z, z ≠ 3 → z ≠ 7 → z ≠ 8 → g z = g0 z) → ∃ (y : Int32) (n' g' : zS) (C' : Nat) (dd' V' : Nat → Nat), ((y = -9 ∧ f_X2_live_L3 s0 (nI i) (nI c) kx (nI j) n = some (Sum.inl n')) ∨ (∃ p : Nat, p ≤ 20 ∧ y = nI p ∧ f_X2_live_L3 s0 (nI i) (nI c) kx (nI j) n = some (Sum.inr (y, n')))) ∧ f_X4_dayOf_L7 (nI (60 * k + i)) (nI c) km (-9) (nI j) g = some (y, g') ∧ zDat M L C' F Z K dd' V' hm ∧ zWal n' M L C' F Z K dd' V' hm ∧ zMod g' M L C' F Z K dd' V' hm ∧ zB4 n' ∧ (∀ z, z ≠ 3 → z ≠ 7 → z ≠ 8 → g' z = g0 z)
  | 0, j, n, g, C, dd, V, kx, km, hd, h1, h2, hD, hW, hM, hb, hg => by
    obtain ⟨kx, rfl⟩ : ∃ z, kx = z + 1 := ⟨kx - 1, by omega⟩
    obtain ⟨km, rfl⟩ : ∃ z, km = z + 1 := ⟨km - 1, by omega⟩
    refine ⟨-9, n, g, C, dd, V, Or.inl ⟨rfl, ?_⟩, ?_, hD, hW, hM, hb, hg⟩
    · rw [f_X2_live_L3, if_pos (nI_le (by omega) (by omega))]
    · rw [f_X4_dayOf_L7, if_pos (nI_le (by omega) (by omega))]
  | d + 1, j, n, g, C, dd, V, kx, km, hd, h1, h2, hD, hW, hM, hb, hg => by
    obtain ⟨kx, rfl⟩ : ∃ z, kx = z + 1 := ⟨kx - 1, by omega⟩
    obtain ⟨km, rfl⟩ : ∃ z, km = z + 1 := ⟨km - 1, by omega⟩
    have q1 : g 28 (60 * k + i + 2 * j) = s0 0 (i + 2 * j) := by
      rw [hg 28 (by decide) (by decide) (by decide), hs _ (by omega) (by omega), show 60 * k + (i + 2 * j) = 60 * k + i + 2 * j by omega]
    have q2 : g 28 (60 * k + i + 2 * j + 1) = s0 0 (i + 2 * j + 1) := by
      rw [hg 28 (by decide) (by decide) (by decide), hs _ (by omega) (by omega), show 60 * k + (i + 2 * j + 1) = 60 * k + i + 2 * j + 1 by omega]
    rw [f_X2_live_L3, if_neg (nI_ge (by omega) (by omega)), f_X4_dayOf_L7, if_neg (nI_ge (by omega) (by omega)), if_neg (by decide), show (2 : Int32) = nI 2 from rfl, pk_mul, nI_add, nI_add, nI_1, nI_1, nI_1, q_rd (show i + 2 * j < 60 by omega) (by decide), q_rd (show i + 2 * j + 1 < 60 by omega) (by decide), q_rd (show 60 * k + i + 2 * j < 240 by omega) (by decide), q_rd (show 60 * k + i + 2 * j + 1 < 240 by omega) (by decide), q1, q2]
    rcases j_act hD hW hM hp hb (ha j (by omega)) with ⟨n', g', C', dd', V', a1, a2, a3, a4, a5, a6, a7⟩ | ⟨a1, a2⟩
    · rw [a1, a2, q_b2, q_b2, if_neg i10, if_neg i10]
      exact j_live hc hic hk hp hs ha d (j + 1) n' g' C' dd' V' kx km (by omega) (by omega) (by omega) a3 a4 a5 a6 (fun z z1 z2 z3 => by rw [a7 z z1 z2 z3, hg z z1 z2 z3])
    · rw [a1, a2, q_b2, q_b2, if_pos i00, if_pos i00]
      obtain ⟨km, rfl⟩ : ∃ z, km = z + 1 := ⟨km - 1, by omega⟩
      refine ⟨nI j, n, g, C, dd, V, Or.inr ⟨j, by omega, rfl, rfl⟩, ?_, hD, hW, hM, hb, hg⟩
      rw [f_X4_dayOf_L7]
      by_cases e : nI c ≤ nI (j + 1)
      · rw [if_pos e]
      · rw [if_neg e, if_pos (nI_pos' (by omega))]
/-- the pairs, looked at by both -/
theorem j_pairs {s : zS4} {k i c : Nat} (hk : k < 4) (hc : i + 2 * c ≤ 60) (h : ∀ p, i ≤ p → p < i + 2 * c → s k 0 p = g 28 (60 * k + p)) : ∀ d j kx km, j + d = c → d < kx → d < km → (f_X3_day_L93 s k (nI i) (nI c) kx (nI (i + 2 * j)) = some (Sum.inl ()) ∧ f_X4_day_L122 g (nI c) (nI (60 * k + i)) km (nI j) = some (Sum.inl ()) ∧ ∀ p, j ≤ p → p < c → zAct (s k 0 (i + 2 * p)) (s k 0 (i + 2 * p + 1))) ∨ (f_X3_day_L93 s k (nI i) (nI c) kx (nI (i + 2 * j)) = some (Sum.inr ()) ∧ f_X4_day_L122 g (nI c) (nI (60 * k + i)) km (nI j) = some (Sum.inr ()))
  | 0, j, kx, km, hd, h1, h2 => by
    obtain ⟨kx, rfl⟩ : ∃ z, kx = z + 1 := ⟨kx - 1, by omega⟩
    obtain ⟨km, rfl⟩ : ∃ z, km = z + 1 := ⟨km - 1, by omega⟩
    left
    refine ⟨?_, ?_, fun p p1 p2 => by omega⟩
    · rw [f_X3_day_L93, show (2 : Int32) = nI 2 from rfl, pk_mul, nI_add, if_pos (nI_le (by omega) (by omega))]
    · rw [f_X4_day_L122, if_pos (nI_le (by omega) (by omega))]
  | d + 1, j, kx, km, hd, h1, h2 => by
    obtain ⟨kx, rfl⟩ : ∃ z, kx = z + 1 := ⟨kx - 1, by omega⟩
    obtain ⟨km, rfl⟩ : ∃ z, km = z + 1 := ⟨km - 1, by omega⟩
    have q1 : g 28 (60 * k + i + 2 * j) = s k 0 (i + 2 * j) := by
      rw [h _ (by omega) (by omega), show 60 * k + (i + 2 * j) = 60 * k + i + 2 * j by omega]
    have q2 : g 28 (60 * k + i + 2 * j + 1) = s k 0 (i + 2 * j + 1) := by
      rw [h _ (by omega) (by omega), show 60 * k + (i + 2 * j + 1) = 60 * k + i + 2 * j + 1 by omega]
    rw [f_X3_day_L93, f_X4_day_L122, if_neg (nI_ge (a := j) (b := c) (by omega) (by omega)), show (2 : Int32) = nI 2 from rfl, pk_mul, pk_mul, nI_add, nI_add, nI_add, nI_1, nI_1, nI_1, if_neg (nI_ge (by omega) (by omega)), q_rd (show i + 2 * j < 60 by omega) (by decide), q_rd (show i + 2 * j + 1 < 60 by omega) (by decide), q_rd (show 60 * k + i + 2 * j < 240 by omega) (by decide), q_rd (show 60 * k + i + 2 * j + 1 < 240 by omega) (by decide), q1, q2]
    rcases k_act (s k 0 (i + 2 * j)) (s k 0 (i + 2 * j + 1)) with ⟨hx, hm, hv⟩ | ⟨hx, hm⟩
    · rw [hx, hm, q_b1, q_b1, if_neg i10, if_neg i10, show i + 2 * j + 2 = i + 2 * (j + 1) by omega]
      rcases j_pairs hk hc h d (j + 1) kx km (by omega) (by omega) (by omega) with ⟨a1, a2, a3⟩ | ⟨a1, a2⟩
      · left
        refine ⟨a1, a2, fun p p1 p2 => ?_⟩
        by_cases e : p = j
        · subst e
          exact hv
        · exact a3 p (by omega) p2
      · right
        exact ⟨a1, a2⟩
    · rw [hx, hm, q_b1, q_b1, if_pos i00, if_pos i00]
      right
      exact ⟨rfl, rfl⟩
set_option maxRecDepth 100000 in
theorem zgh_n : ∀ C : Fin 9, ∀ x y : Fin 14, zgh C.val x.val y.val = nI (zgh C.val x.val y.val).toNatClampNeg ∧ (zgh C.val x.val y.val).toNatClampNeg < 65536 := by decide +kernel
theorem zgo_n (h : zDat M L C F Z K dd V hm) {l : Nat} (hl : l < L) : ∃ s, s < 65536 ∧ zgo C F K dd V hm l = nI s := by
  unfold zgo
  by_cases c : l = F (hm l)
  · rw [if_pos c]
    exact ⟨0, by decide, rfl⟩
  · rw [if_neg c]
    have hC := h.2.2.2.2.2.2.2 (h.pos hl)
    have h1 := zlt_le h hl
    have h2 := zlt_le h (l := l - 1) (by omega)
    have := zgh_n ⟨C, by omega⟩ ⟨zlt K dd V hm (l - 1), by omega⟩ ⟨zlt K dd V hm l, by omega⟩
    exact ⟨_, this.2, this.1⟩
/-- ghosts of all -/
def zga (C : Nat) (F K dd V hm : Nat → Nat) (L : Nat) : Int32 := zi (fun l a => a + nI (zpc 16 (zgo C F K dd V hm l).toNatClampNeg)) 0 L 0
theorem x_ghosts (h : zDat M L C F Z K dd V hm) (hW : zWal n M L C F Z K dd V hm) : f_X2_ghostsTogether n = some (zga C F K dd V hm L) := by
  have hL := h.l16
  unfold f_X2_ghostsTogether zga
  rw [show (f_X2_ghostsTogether_L4 n 100 0 0) = f_X2_ghostsTogether_L4 n 100 0 (nI 0) from rfl,
    zl_up (fun k i (a : Int32) => f_X2_ghostsTogether_L4 n k a (nI i)) L (fun l a => a + nI (zpc 16 (zgo C F K dd V hm l).toNatClampNeg)) (fun a => a)
      (fun k a => by
        show f_X2_ghostsTogether_L4 n (k + 1) a (nI L) = some a
        rw [f_X2_ghostsTogether_L4, hW.2.1, if_pos (nI_le (Nat.le_refl L) (by omega))])
      (fun k i a hi => by
        obtain ⟨s, s1, s2⟩ := zgo_n h hi
        show f_X2_ghostsTogether_L4 n (k + 1) a (nI i) = f_X2_ghostsTogether_L4 n k _ (nI (i + 1))
        rw [f_X2_ghostsTogether_L4, hW.2.1, if_neg (nI_ge hi (by omega)), x_ghost h hW hi, q_b1, s2, j_bitCount s1, q_b1, zpN_pc s1, q_cl (by omega), nI_1])
      L 0 0 100 (by omega) (by omega), q_b1]
theorem m_ghosts (h : zDat M L C F Z K dd V hm) (hW : zMod g M L C F Z K dd V hm) (hf : ∀ t, t < 15 → g 17 t = nI (zpl C t)) : f_X4_dayOf_L125 g 100 0 0 = some (zga C F K dd V hm L) := by
  have hL := h.l16
  unfold zga
  rw [show (f_X4_dayOf_L125 g 100 0 0) = f_X4_dayOf_L125 g 100 0 (nI 0) from rfl,
    zl_up (fun k i (a : Int32) => f_X4_dayOf_L125 g k a (nI i)) L (fun l a => a + nI (zpc 16 (zgo C F K dd V hm l).toNatClampNeg)) (fun a => a)
      (fun k a => by
        show f_X4_dayOf_L125 g (k + 1) a (nI L) = some a
        rw [f_X4_dayOf_L125, hW.2.1, if_pos (nI_le (Nat.le_refl L) (by omega))])
      (fun k i a hi => by
        obtain ⟨s, s1, s2⟩ := zgo_n h hi
        show f_X4_dayOf_L125 g (k + 1) a (nI i) = f_X4_dayOf_L125 g k _ (nI (i + 1))
        rw [f_X4_dayOf_L125, hW.2.1, if_neg (nI_ge hi (by omega)), m_ghost h hW hf hi, q_b1, s2, m_bits s1, q_b1, q_cl (by omega), nI_1])
      L 0 0 100 (by omega) (by omega)]
/-- loops that save and bring back -/
theorem m_cpl {f : Nat → Int32 → zS → Option zS} {a b ct N : Nat} (hN : N ≤ 16) (hab : a ≠ b) (hcb : ct ≠ b) (hx : ∀ k (g : zS), g ct 0 = nI N → f (k + 1) (nI N) g = some g) (hs : ∀ k i (g : zS), i < N → g ct 0 = nI N → f (k + 1) (nI i) g = f k (nI (i + 1)) (va_up g b (upd (g b) i (g a i)))) {g : zS} (hg : g ct 0 = nI N) : ∃ g', f 100 0 g = some g' ∧ (∀ c, c ≠ b → g' c = g c) ∧ (∀ i, i < N → g' b i = g a i) := by
  obtain ⟨x, d1, d2⟩ := zl_inv (fun k i (x : zS) => f k (nI i) x) N (fun i x => (∀ c, c ≠ b → x c = g c) ∧ (∀ j, j < i → x b j = g a j)) (fun x => x)
    (fun k x hI => hx k x (by rw [hI.1 ct hcb]; exact hg))
    (fun k i x hi hI => by
      refine ⟨va_up x b (upd (x b) i (x a i)), ⟨?_, ?_⟩, hs k i x hi (by rw [hI.1 ct hcb]; exact hg)⟩
      · intro c hc
        rw [q_upn hc, hI.1 c hc]
      · intro j hj
        rw [q_up]
        by_cases e : j = i
        · subst e
          rw [q_upd, hI.1 a hab]
        · rw [q_updn e, hI.2 j (by omega)])
    N 0 g 100 (by omega) ⟨fun _ _ => rfl, fun j hj => by omega⟩ (by omega)
  exact ⟨x, d2, d1.1, d1.2⟩
/-- what a day ends with -/
theorem j_end (hD : zDat M L C F Z K dd V hm) (hW : zWal n M L C F Z K dd V hm) (hM : zMod g M L C F Z K dd V hm) (hp : 0 < M) {v : Nat} (hv : v ≤ 4 ∨ (10 ≤ v ∧ v ≤ 25)) (hv1 : v ≠ 1) {x1 x2 : Int32} {gs : zS} (hl7 : f_X4_dayOf_L7 x1 x2 100 (-9) 0 gs = some (-9, g)) : ∃ r0 g', f_X3_endOfDay n (nI v) = some r0 ∧ f_X4_dayOf gs x1 x2 (nI v) = some (r0, g') ∧ (∀ c, c ≠ 17 → c ≠ 18 → g' c = g c) := by
  have hL := hD.l16
  have hC := hD.2.2.2.2.2.2.2 hp
  have ne : ∀ w : Nat, w < 100 → v ≠ w → ¬ nI v = nI w := fun w h1 h2 e => by
    rw [nI_eq (by omega) (by omega)] at e
    exact h2 e
  unfold f_X3_endOfDay f_X4_dayOf
  rw [hl7, q_b2, if_neg (show ¬ nI v = 1 from ne 1 (by omega) hv1), if_pos (show (-9 : Int32) < 0 by decide), if_neg (show ¬ nI v = 1 from ne 1 (by omega) hv1)]
  rcases hv with h4 | ⟨h10, h25⟩
  · rw [if_pos (show nI v < 10 from nI_lt (b := 10) (by omega) (by decide))]
    obtain ⟨g', a1, a2, a3⟩ := m_frame hC hM.2.2.1
    have hM' : zMod g' M L C F Z K dd V hm := zMod_g hM (fun c hc => a3 c (by omega) (by omega))
    rw [a1, q_b1, m_ghosts hD hM' (fun t ht => (a2 t ht).1), q_b1]
    rcases (show v = 0 ∨ v = 2 ∨ v = 3 ∨ v = 4 by omega) with rfl | rfl | rfl | rfl
    · rw [if_pos (show nI 0 = 0 from rfl), if_pos (show nI 0 = 0 from rfl), x_lightTogether hD hW, m_lightOfAll hD hM']
      exact ⟨_, _, rfl, rfl, a3⟩
    · rw [if_neg (show ¬ nI 2 = 0 by decide), if_neg (show ¬ nI 2 = 0 by decide), if_pos (show nI 2 = 2 from rfl), if_pos (show nI 2 = 2 from rfl), show (15 : Int32) = nI 15 from rfl, x_greatest hD hW hp (by omega), m_greatest hD hM' (by omega)]
      exact ⟨_, _, rfl, rfl, a3⟩
    · obtain ⟨g2, b1, b2, -⟩ := m_dark hD hM' hp
      rw [if_neg (show ¬ nI 3 = 0 by decide), if_neg (show ¬ nI 3 = 0 by decide), if_neg (show ¬ nI 3 = 2 by decide), if_neg (show ¬ nI 3 = 2 by decide), if_pos (show nI 3 = 3 from rfl), if_pos (show nI 3 = 3 from rfl), x_dark hD hW, b1]
      exact ⟨_, _, rfl, rfl, fun c c1 c2 => by rw [b2 c c1 c2, a3 c c1 c2]⟩
    · rw [if_neg (show ¬ nI 4 = 0 by decide), if_neg (show ¬ nI 4 = 0 by decide), if_neg (show ¬ nI 4 = 2 by decide), if_neg (show ¬ nI 4 = 2 by decide), if_neg (show ¬ nI 4 = 3 by decide), if_neg (show ¬ nI 4 = 3 by decide), if_pos (show nI 4 = 4 from rfl), x_ghosts hD hW]
      exact ⟨_, _, rfl, rfl, a3⟩
  · rw [if_neg (show ¬ nI v = 0 from ne 0 (by omega) (by omega)), if_neg (show ¬ nI v = 2 from ne 2 (by omega) (by omega)), if_neg (show ¬ nI v = 3 from ne 3 (by omega) (by omega)), if_neg (show ¬ nI v = 4 from ne 4 (by omega) (by omega)), if_neg (show ¬ nI v < 10 from nI_nlt (b := 10) h10 (by omega)), show nI v - 10 = nI (v - 10) from pk_sub (b := 10) h10]
    rcases k_lamp hL hW.2.1 hM.2.1 (nI (v - 10)) with ⟨l, hl, e, hx, hm2⟩ | ⟨hx, hm2⟩
    · rw [hx, hm2, q_b1, q_b1, if_neg i10, if_pos i00, e, q_rd (show l < 16 by omega) (by decide), q_rd (show l < 16 by omega) (by decide), (hW.2.2.2.2.1 l hl).1, (hM.2.2.2.2 l hl).1]
      exact ⟨_, _, rfl, rfl, fun _ _ _ => rfl⟩
    · rw [hx, hm2, q_b1, q_b1, if_pos i00, if_neg i10]
      exact ⟨_, _, rfl, rfl, fun _ _ _ => rfl⟩
end ZD
theorem q_2 : ∀ c : Fin 21, (2 : Int64) * Int32.toInt64 (nI c.val) = Int32.toInt64 (nI (2 * c.val)) := by decide
theorem k_day (x : Int32) : (∃ v : Nat, (v ≤ 4 ∨ (10 ≤ v ∧ v ≤ 25)) ∧ x = nI v ∧ f_X3_isOfDay x = some 1 ∧ (f_X4_in (Int32.toInt64 x) 0 4 = some 1 ∨ (f_X4_in (Int32.toInt64 x) 0 4 = some 0 ∧ f_X4_in (Int32.toInt64 x) 10 25 = some 1))) ∨ (f_X3_isOfDay x = some 0 ∧ f_X4_in (Int32.toInt64 x) 0 4 = some 0 ∧ f_X4_in (Int32.toInt64 x) 10 25 = some 0) := by
  rcases q_rng x 0 25 (by decide) with ⟨v, -, hv, rfl⟩ | h
  · have : ∀ v : Fin 26, ((v.val ≤ 4 ∨ (10 ≤ v.val ∧ v.val ≤ 25)) ∧ f_X3_isOfDay (nI v.val) = some 1 ∧ (f_X4_in (Int32.toInt64 (nI v.val)) 0 4 = some 1 ∨ (f_X4_in (Int32.toInt64 (nI v.val)) 0 4 = some 0 ∧ f_X4_in (Int32.toInt64 (nI v.val)) 10 25 = some 1))) ∨ (f_X3_isOfDay (nI v.val) = some 0 ∧ f_X4_in (Int32.toInt64 (nI v.val)) 0 4 = some 0 ∧ f_X4_in (Int32.toInt64 (nI v.val)) 10 25 = some 0) := by decide
    rcases this ⟨v, by omega⟩ with ⟨a, b, c⟩ | d
    · exact Or.inl ⟨v, a, rfl, b, c⟩
    · exact Or.inr d
  · right
    have t0 : (0 : Int64).toInt = 0 := by decide
    have t4 : (4 : Int64).toInt = 4 := by decide
    have t10 : (10 : Int64).toInt = 10 := by decide
    have t25 : (25 : Int64).toInt = 25 := by decide
    refine ⟨?_, q_inF (by rw [t0, t4]; omega), q_inF (by rw [t10, t25]; omega)⟩
    unfold f_X3_isOfDay
    by_cases c : x < 0
    · rw [if_pos c, if_pos]
      rw [q_l x 10 (by decide)]
      rw [q_l x 0 (by decide)] at c
      omega
    · rw [if_neg c]
      rw [q_l x 0 (by decide)] at c
      rw [if_neg (by rw [q_le x 4 (by decide)]; omega), if_neg (by rw [q_l x 10 (by decide)]; omega), if_pos (by rw [q_re x 26 (by decide)]; omega)]
theorem p_day {o : zS} {s : zS4} {n : zS} {t : zS} {r : zS} {g : zS} (h : zRel o s n t r g) (x1 x2 x3 x4 x5 : Int32) : ∃ (r0 : Int32) (o' : zS) (t' : zS) (g' : zS), f_X3_day o s n t x1 x2 x3 x4 x5 = some (r0, o', t') ∧ f_X4_day g x1 x2 x3 x4 x5 = some (r0, g') ∧ zRel o' s n t' r g' := by
  obtain ⟨e1, e2, e3, e4, e5, M, L, C, F, Z, K, dd, V, hm, q, ru, rl, rz, hD, hW, hM, hR⟩ := id h
  have hL := hD.l16
  have hM4 := hD.1
  unfold f_X3_day f_X4_day
  rw [q_lt]
  have h0 : (0 : Int64).toInt = 0 := by decide
  have h20 : (20 : Int64).toInt = 20 := by decide
  rcases k_sheet x1 with ⟨k, hk, rfl, hx, hm2⟩ | ⟨hx, hm2⟩
  rotate_left
  · rw [hx, hm2, q_b1, q_b1, if_pos i00, if_neg i10]
    exact ⟨_, _, _, _, rfl, rfl, zRel_f h 0⟩
  rw [hx, hm2, q_b1, q_b1, if_neg i10, if_pos i00]
  rcases k_lane x2 with ⟨w, hw, rfl, hx, hm2⟩ | ⟨hx, hm2⟩
  rotate_left
  · rw [hx, hm2, q_b1, q_b1, if_pos i00, if_pos i00]
    exact ⟨_, _, _, _, rfl, rfl, zRel_f h 0⟩
  rw [hx, hm2, q_b1, q_b1, if_neg i10, if_neg i10]
  rcases q_rng x4 0 20 (by decide) with ⟨c, -, hc, rfl⟩ | hj
  rotate_left
  · rw [q_inF (by rw [h0, h20]; omega), q_b1, if_pos i00]
    by_cases c : x4 < 0
    · rw [if_pos c]
      exact ⟨_, _, _, _, rfl, rfl, zRel_f h 0⟩
    · rw [if_neg c, if_pos (by rw [q_r x4 20 (by decide)]; rw [q_l x4 0 (by decide)] at c; omega)]
      exact ⟨_, _, _, _, rfl, rfl, zRel_f h 0⟩
  rw [if_neg (nI_pos (by omega)), if_neg (show ¬ 20 < nI c from nI_nlt (a := 20) hc (by decide)), q_inT (by rw [h0, h20, q_ti (by omega)]; omega), q_b1, if_neg i10]
  rcases k_day x5 with ⟨v, hv, rfl, hx, hm2⟩ | ⟨hx, hm2, hm3⟩
  rotate_left
  · rw [hx, hm2, q_b1, q_b1, if_pos i00, if_pos i00, hm3, q_b1, if_pos i00]
    exact ⟨_, _, _, _, rfl, rfl, zRel_f h 0⟩
  have h5 : (zq_b1 (f_X4_in (Int32.toInt64 (nI v)) 0 4) (fun r17 => if r17 = 0 then (zq_b1 (f_X4_in (Int32.toInt64 (nI v)) 10 25) (fun r75 => if r75 = 0 then (zq_b2 (f_X4_refused g (-2)) (fun r78 g79 => some (r78, g79))) else (f_X4_day_J73 (nI k) (nI w) x3 (nI c) (nI v) g))) else (f_X4_day_J73 (nI k) (nI w) x3 (nI c) (nI v) g))) = f_X4_day_J73 (nI k) (nI w) x3 (nI c) (nI v) g := by
    rcases hm2 with a | ⟨a, b⟩
    · rw [a, q_b1, if_neg i10]
    · rw [a, q_b1, if_pos i00, b, q_b1, if_neg i10]
  rw [h5, hx, q_b1, if_neg i10]
  unfold f_X4_day_J73
  rcases k_stands hD.1 hW.1 hM.1 with ⟨hp, hs1, hs2⟩ | ⟨hp, hs1, hs2⟩
  rotate_left
  · rw [hs1, q_b1, if_pos i00, if_pos hs2]
    exact ⟨_, _, _, _, rfl, rfl, zRel_f h 0⟩
  rw [hs1, q_b1, if_neg i10, if_neg hs2, q_in hk (by decide), q_cl (by omega), q_2 ⟨c, by omega⟩, show (2 : Int32) * nI c = nI (2 * c) from pk_mul 2 c]
  rcases j_cells hk (e5 k hk) (nI w) x3 (c := 2 * c) (by omega) with ⟨u, v1, v2, hx, hm2⟩ | ⟨i, rfl, hi, hx, hm2, hcell⟩
  · rw [hx, hm2, q_b1, q_b2, if_neg (nI_ne0 v1 (by omega))]
    have hv : ¬ (0 ≤ (-10) - nI u) := by
      have : ∀ v : Fin 4, ¬ (0 ≤ (-10) - nI v.val) := by decide
      exact this ⟨u, by omega⟩
    rw [if_neg hv]
    exact ⟨_, _, _, _, rfl, rfl, zRel_f2 h (nI u) 0⟩
  rw [hx, hm2, q_b1, q_b2, if_pos i00, if_pos (by decide), show (60 : Int32) = nI 60 from rfl, pk_mul, nI_add]
  rcases j_pairs (s := s) (g := g) hk hi hcell c 0 100 100 (by omega) (by omega) (by omega) with ⟨a1, a2, a3⟩ | ⟨a1, a2⟩
  rotate_left
  · have a1 : f_X3_day_L93 s k (nI i) (nI c) 100 (nI i) = some (Sum.inr ()) := a1
    have a2 : f_X4_day_L122 g (nI c) (nI (60 * k + i)) 100 0 = some (Sum.inr ()) := a2
    rw [a1, a2]
    exact ⟨_, _, _, _, rfl, rfl, zRel_f h 0⟩
  have a1 : f_X3_day_L93 s k (nI i) (nI c) 100 (nI i) = some (Sum.inl ()) := a1
  have a2 : f_X4_day_L122 g (nI c) (nI (60 * k + i)) 100 0 = some (Sum.inl ()) := a2
  obtain ⟨t1, u1, u2, u3⟩ := x_likeW (n := t) hD hW e3
  -- what is saved
  obtain ⟨g1, b1, b2, b3⟩ := m_cpl (f := f_X4_day_L183) (a := 8) (b := 19) (ct := 2) (N := L) hL (by decide) (by decide)
    (fun k g hg => by rw [f_X4_day_L183, hg, if_pos (nI_le (Nat.le_refl _) (by omega))])
    (fun k i g hi hg => by rw [f_X4_day_L183, hg, if_neg (nI_ge hi (by omega)), q_rd (show i < 16 by omega) (by decide), q_in (show i < 16 by omega) (by decide), q_lt, q_cl (by omega), nI_1]) hM.2.1
  obtain ⟨g2, c1, c2, c3⟩ := m_cpl (f := f_X4_day_L215) (a := 7) (b := 20) (ct := 1) (N := M) (g := g1) (by omega) (by decide) (by decide)
    (fun k g hg => by rw [f_X4_day_L215, hg, if_pos (nI_le (Nat.le_refl _) (by omega))])
    (fun k i g hi hg => by rw [f_X4_day_L215, hg, if_neg (nI_ge hi (by omega)), q_rd (show i < 4 by omega) (by decide), q_in (show i < 4 by omega) (by decide), q_lt, q_cl (by omega), nI_1]) (by rw [b2 1 (by decide)]; exact hM.1)
  have hM2 : zMod g2 M L C F Z K dd V hm := zMod_g hM (fun z hz => by rw [c2 z (by omega), b2 z (by omega)])
  obtain ⟨y, n3, g3, C3, dd3, V3, z1, z2, z3, z4, z5, z6, z7⟩ := j_live (g0 := g2) (s0 := s k) hc hi hk hp (fun p p1 p2 => by rw [c2 28 (by decide), b2 28 (by decide)]; exact hcell p p1 p2) (fun j hj => a3 j (by omega) hj) c 0 t1 g2 C dd V 100 100 (by omega) (by omega) (by omega) hD u2 hM2 u3 (fun _ _ _ _ => rfl)
  have z2 : f_X4_dayOf_L7 (nI (60 * k + i)) (nI c) 100 (-9) 0 g2 = some (y, g3) := z2
  -- the end: what is brought back
  have fin : ∀ (g4 : zS) (r0 : Int32), f_X4_dayOf g2 (nI (60 * k + i)) (nI c) (nI v) = some (r0, g4) → (∀ z, z ≠ 17 → z ≠ 18 → g4 z = g3 z) → ∃ g', (zq_b1 (f_X4_day_L183 100 0 g) (fun g39 => zq_b1 (f_X4_day_L215 100 0 g39) (fun g46 => zq_b2 (f_X4_dayOf g46 (nI (60 * k + i)) (nI c) (nI v)) (fun r48 g49 => zq_lt (va_up g49 3 (fun _ => (g 3 0))) (fun g50 => zq_b1 (f_X4_day_L265 100 0 g50) (fun g57 => zq_b1 (f_X4_day_L297 100 0 g57) (fun g64 => zq_b2 (f_X4_refused g64 r48) (fun r66 g67 => some (r66, g67))))))))) = some (r0, g') ∧ zRel (va_up o 6 (fun _ => 0)) s n n3 r g' := by
    intro g4 r0 hd hk4
    have hg5 : ∀ z, z ≠ 3 → z ≠ 7 → z ≠ 8 → z ≠ 17 → z ≠ 18 → z ≠ 19 → z ≠ 20 → g4 z = g z := fun z y1 y2 y3 y4 y5 y6 y7 => by rw [hk4 z y4 y5, z7 z y1 y2 y3, c2 z y7, b2 z y6]
    obtain ⟨g5, p1, p2, p3⟩ := m_cpl (f := f_X4_day_L265) (a := 19) (b := 8) (ct := 2) (N := L) (g := va_up g4 3 (fun _ => (g 3 0))) hL (by decide) (by decide)
      (fun k g hg => by rw [f_X4_day_L265, hg, if_pos (nI_le (Nat.le_refl _) (by omega))])
      (fun k i g hi hg => by rw [f_X4_day_L265, hg, if_neg (nI_ge hi (by omega)), q_rd (show i < 16 by omega) (by decide), q_in (show i < 16 by omega) (by decide), q_lt, q_cl (by omega), nI_1]) (by rw [q_upn (by decide), hg5 2 (by decide) (by decide) (by decide) (by decide) (by decide) (by decide) (by decide)]; exact hM.2.1)
    obtain ⟨g6, s1, s2, s3⟩ := m_cpl (f := f_X4_day_L297) (a := 20) (b := 7) (ct := 1) (N := M) (g := g5) (by omega) (by decide) (by decide)
      (fun k g hg => by rw [f_X4_day_L297, hg, if_pos (nI_le (Nat.le_refl _) (by omega))])
      (fun k i g hi hg => by rw [f_X4_day_L297, hg, if_neg (nI_ge hi (by omega)), q_rd (show i < 4 by omega) (by decide), q_in (show i < 4 by omega) (by decide), q_lt, q_cl (by omega), nI_1]) (by rw [p2 1 (by decide), q_upn (by decide), hg5 1 (by decide) (by decide) (by decide) (by decide) (by decide) (by decide) (by decide)]; exact hM.1)
    refine ⟨va_up g6 0 (fun _ => 0), ?_, ?_⟩
    · rw [b1, q_b1, c1, q_b1, hd, q_b2, q_lt, p1, q_b1, s1, q_b1]
      rfl
    have hg7 : ∀ z, z ≠ 0 → z ≠ 3 → z ≠ 7 → z ≠ 8 → z ≠ 17 → z ≠ 18 → z ≠ 19 → z ≠ 20 → va_up g6 0 (fun _ => 0) z = g z := fun z y0 y1 y2 y3 y4 y5 y6 y7 => by
      rw [q_upn y0, s2 z y2, p2 z y3, q_upn y1, hg5 z y1 y2 y3 y4 y5 y6 y7]
    refine ⟨?_, rfl, e3, z6, ?_, M, L, C, F, Z, K, dd, V, hm, q, ru, rl, rz, hD, hW, ?_, ?_⟩
    · rw [hg7 30 (by decide) (by decide) (by decide) (by decide) (by decide) (by decide) (by decide) (by decide)]
      exact e1
    · intro j hj
      have := e5 j hj
      unfold zSh1 at this ⊢
      rw [hg7 26 (by decide) (by decide) (by decide) (by decide) (by decide) (by decide) (by decide) (by decide), hg7 27 (by decide) (by decide) (by decide) (by decide) (by decide) (by decide) (by decide) (by decide), hg7 28 (by decide) (by decide) (by decide) (by decide) (by decide) (by decide) (by decide) (by decide)]
      exact this
    · obtain ⟨m1, m2, m3, m4, m5⟩ := hM
      refine ⟨?_, ?_, ?_, fun j hj => ?_, fun l hl => ?_⟩
      · rw [hg7 1 (by decide) (by decide) (by decide) (by decide) (by decide) (by decide) (by decide) (by decide)]; exact m1
      · rw [hg7 2 (by decide) (by decide) (by decide) (by decide) (by decide) (by decide) (by decide) (by decide)]; exact m2
      · rw [q_upn (by decide), s2 3 (by decide), p2 3 (by decide), q_up]; exact m3
      · rw [hg7 4 (by decide) (by decide) (by decide) (by decide) (by decide) (by decide) (by decide) (by decide), hg7 5 (by decide) (by decide) (by decide) (by decide) (by decide) (by decide) (by decide) (by decide), hg7 6 (by decide) (by decide) (by decide) (by decide) (by decide) (by decide) (by decide) (by decide), q_upn (by decide), s3 j hj, p2 20 (by decide), q_upn (by decide), hk4 20 (by decide) (by decide), z7 20 (by decide) (by decide) (by decide), c3 j hj, b2 7 (by decide)]
        exact m4 j hj
      · rw [hg7 9 (by decide) (by decide) (by decide) (by decide) (by decide) (by decide) (by decide) (by decide), q_upn (by decide), s2 8 (by decide), p3 l hl, q_upn (by decide), hk4 19 (by decide) (by decide), z7 19 (by decide) (by decide) (by decide), c2 19 (by decide), b3 l hl]
        exact m5 l hl
    · exact zRd_g hR (fun z y1 y2 => hg7 z (by omega) (by omega) (by omega) (by omega) (by omega) (by omega) (by omega) (by omega))
  have hlive : f_X2_live t1 (s k) (nI i) (nI c) = some (y, n3) := by
    unfold f_X2_live
    rcases z1 with ⟨rfl, z1⟩ | ⟨p, hp, rfl, z1⟩
    · have z1 : f_X2_live_L3 (s k) (nI i) (nI c) 100 0 t1 = some (Sum.inl n3) := z1
      rw [z1]
      rfl
    · have z1 : f_X2_live_L3 (s k) (nI i) (nI c) 100 0 t1 = some (Sum.inr (nI p, n3)) := z1
      rw [z1]
      rfl
  rw [a1, a2]
  show ∃ r0 o' t' g', zq_b1 (f_X2_becomeLike t n) _ = some (r0, o', t') ∧ zq_b1 (f_X4_day_L183 100 0 g) _ = some (r0, g') ∧ zRel o' s n t' r g'
  rw [u1, q_b1, hlive, q_b2]
  by_cases cv : v = 1
  · subst cv
    obtain ⟨g', q1, q2⟩ := fin g3 y (by unfold f_X4_dayOf; rw [z2, q_b2, if_pos (show nI 1 = 1 from rfl)]) (fun _ _ _ => rfl)
    rw [if_pos (show nI 1 = 1 from rfl)]
    exact ⟨_, _, _, _, rfl, q1, q2⟩
  have cv' : ¬ nI v = 1 := by
    rw [show (1 : Int32) = nI 1 from rfl, nI_eq (by omega) (by omega)]
    exact cv
  rw [if_neg cv']
  rcases z1 with ⟨rfl, z1⟩ | ⟨p, hp20, rfl, z1⟩
  · obtain ⟨r0, g4, q1, q2, q3⟩ := j_end z3 z4 z5 hp hv cv z2
    obtain ⟨g', q4, q5⟩ := fin g4 r0 q2 q3
    rw [if_pos rfl, q1, q_b1]
    exact ⟨_, _, _, _, rfl, q4, q5⟩
  · have np : ¬ nI p = -9 := by
      have : ∀ p : Fin 21, ¬ nI p.val = -9 := by decide
      exact this ⟨p, by omega⟩
    obtain ⟨g', q1, q2⟩ := fin g3 ((-100) - nI p) (by unfold f_X4_dayOf; rw [z2, q_b2, if_neg cv', if_neg (nI_pos (by omega))]) (fun _ _ _ => rfl)
    rw [if_neg np]
    exact ⟨_, _, _, _, rfl, q1, q2⟩
