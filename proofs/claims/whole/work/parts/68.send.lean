theorem q_cmp {c : Nat} (hc : c ≤ 60) : 0 ≤ lg_cmp (Int32.toInt64 (nI c)) 0 := by
  unfold lg_cmp
  have h : ¬ (Int32.toInt64 (nI c) < 0) := by
    rw [Int64.lt_iff_toInt_lt, Int32.toInt_toInt64, q_ti (by omega)]
    show ¬ ((c : Int) < 0)
    omega
  by_cases c1 : (0 : Int64) < Int32.toInt64 (nI c)
  · rw [if_pos c1]; decide
  · rw [if_neg c1]
    by_cases c2 : Int32.toInt64 (nI c) = 0
    · rw [if_pos c2]; decide
    · exfalso
      apply c2
      apply Int64.toInt_inj.mp
      rw [Int64.lt_iff_toInt_lt] at h c1
      omega
theorem j_cells {s g : zS} {k : Nat} (hk : k < 4) (h : zSh1 s g k) (x2 x3 : Int32) {c : Nat} (hc : c ≤ 60) : (∃ v : Nat, 1 ≤ v ∧ v ≤ 3 ∧ f_X1_faultOfCells s x2 x3 (nI c) = some (nI v) ∧ f_X4_cellsBarred g (nI k) x2 x3 (Int32.toInt64 (nI c)) = some ((-10) - nI v, va_up g 0 (fun _ => nI v))) ∨ (∃ i : Nat, x3 = nI i ∧ i + c ≤ 60 ∧ f_X1_faultOfCells s x2 x3 (nI c) = some 0 ∧ f_X4_cellsBarred g (nI k) x2 x3 (Int32.toInt64 (nI c)) = some (0, g) ∧ ∀ p, i ≤ p → p < i + c → s 0 p = g 28 (60 * k + p)) := by
  rcases h with ⟨a, b⟩ | ⟨a, len, lane, h1, h2, h3, h4, h5, h6, h7⟩
  · left
    refine ⟨1, by omega, by omega, x_fault0 a _ _ _, ?_⟩
    unfold f_X4_cellsBarred f_X4_cellsBarred_J25
    rw [q_rd hk (by decide), b, if_pos (by decide), q_rd hk (by decide), b, if_neg (by decide)]
    rfl
  · rw [x_fault1 a h1 h3 h5]
    unfold f_X4_cellsBarred f_X4_cellsBarred_J25
    rw [q_rd hk (by decide), h4, if_neg (nI_pos (by omega)), q_rd hk (by decide), h6, q_ti (by omega)]
    by_cases c1 : nI lane = x2
    rotate_left
    · left
      refine ⟨2, by omega, by omega, ?_, ?_⟩
      · rw [if_neg c1]; rfl
      · rw [if_neg c1]; rfl
    rw [if_pos c1, if_pos c1, q_rd hk (by decide), h4, if_pos (nI_pos' (by omega)), if_pos (q_cmp hc), q_rd hk (by decide), h4, m_beyond _ _ h1, q_b1, q_ti (by omega), if_pos (by omega)]
    by_cases c2 : 0 ≤ x3.toInt ∧ x3.toInt ≤ len ∧ (c : Int) ≤ len - x3.toInt
    rotate_left
    · left
      refine ⟨3, by omega, by omega, ?_, ?_⟩
      · rw [if_neg c2]; rfl
      · rw [if_neg (show ¬ (0 ≤ x3.toInt ∧ (0 : Int) ≤ c ∧ x3.toInt + c ≤ len) by omega), if_neg i10]; rfl
    right
    obtain ⟨i, hi, rfl⟩ : ∃ j : Nat, j ≤ 60 ∧ x3 = nI j := by
      rcases q_rng x3 0 60 (by decide) with ⟨j, -, a, b⟩ | q
      · exact ⟨j, a, b⟩
      · omega
    rw [q_ti (by omega)] at c2
    refine ⟨i, rfl, by omega, ?_, ?_, fun p p1 p2 => h7 p (by omega)⟩
    · rw [q_ti (by omega), if_pos c2]
    · rw [q_ti (by omega), if_pos (show (0 : Int) ≤ i ∧ (0 : Int) ≤ c ∧ (i : Int) + c ≤ len by omega), if_pos i00]
/-- the levels of a row, looked at by both -/
theorem j_levels {s : zS4} {g : zS} {k i c : Nat} (hk : k < 4) (hc : i + c ≤ 60) (h : ∀ p, i ≤ p → p < i + c → s k 0 p = g 28 (60 * k + p)) : ∀ d j kx km, j + d = c → d < kx → d < km → (f_X3_send_L83 s k (nI i) (nI c) kx (nI (i + j)) = some (Sum.inl ()) ∧ f_X4_send_L90 g (nI c) (nI (60 * k + i)) km (nI j) = some (Sum.inl ()) ∧ ∀ p, i + j ≤ p → p < i + c → ∃ v : Nat, v ≤ 9 ∧ s k 0 p = nI v) ∨ (f_X3_send_L83 s k (nI i) (nI c) kx (nI (i + j)) = some (Sum.inr ()) ∧ f_X4_send_L90 g (nI c) (nI (60 * k + i)) km (nI j) = some (Sum.inr ()))
  | 0, j, kx, km, hd, h1, h2 => by
    obtain ⟨kx, rfl⟩ : ∃ z, kx = z + 1 := ⟨kx - 1, by omega⟩
    obtain ⟨km, rfl⟩ : ∃ z, km = z + 1 := ⟨km - 1, by omega⟩
    left
    refine ⟨?_, ?_, fun p p1 p2 => by omega⟩
    · rw [f_X3_send_L83, nI_add, if_pos (nI_le (by omega) (by omega))]
    · rw [f_X4_send_L90, if_pos (nI_le (by omega) (by omega))]
  | d + 1, j, kx, km, hd, h1, h2 => by
    obtain ⟨kx, rfl⟩ : ∃ z, kx = z + 1 := ⟨kx - 1, by omega⟩
    obtain ⟨km, rfl⟩ : ∃ z, km = z + 1 := ⟨km - 1, by omega⟩
    rw [f_X3_send_L83, nI_add, if_neg (nI_ge (by omega) (by omega)), f_X4_send_L90, if_neg (nI_ge (by omega) (by omega)), q_rd (show i + j < 60 by omega) (by decide), nI_add, q_rd (show 60 * k + i + j < 240 by omega) (by decide), h (i + j) (by omega) (by omega), show 60 * k + (i + j) = 60 * k + i + j by omega, nI_1, nI_1]
    rcases k_level (g 28 (60 * k + i + j)) with ⟨v, hv, ev, hx, hm⟩ | ⟨hx, hm⟩
    · rw [hx, hm, q_b1, q_b1, if_neg i10, if_neg i10]
      rcases j_levels hk hc h d (j + 1) kx km (by omega) (by omega) (by omega) with ⟨a1, a2, a3⟩ | ⟨a1, a2⟩
      · left
        refine ⟨a1, a2, fun p p1 p2 => ?_⟩
        by_cases e : p = i + j
        · subst e
          refine ⟨v, hv, ?_⟩
          rw [h _ (by omega) (by omega), show 60 * k + (i + j) = 60 * k + i + j by omega, ev]
        · exact a3 p (by omega) p2
      · right
        exact ⟨a1, a2⟩
    · rw [hx, hm, q_b1, q_b1, if_pos i00, if_pos i00]
      right
      exact ⟨rfl, rfl⟩
section ZN
variable {M L C : Nat} {F Z K dd V hm : Nat → Nat}
/-- levels taken by a module -/
def zvt (V lv : Nat → Nat) (f z b : Nat) : Nat → Nat := fun l => if f ≤ l ∧ l < f + z then lv (b + (l - f)) else V l
theorem zvt_in {lv : Nat → Nat} {f z b l : Nat} (h1 : f ≤ l) (h2 : l < f + z) : zvt V lv f z b l = lv (b + (l - f)) := if_pos ⟨h1, h2⟩
theorem zvt_out {lv : Nat → Nat} {f z b l : Nat} (h : l < f ∨ f + z ≤ l) : zvt V lv f z b l = V l := if_neg (fun q => by omega)
/-- what the reference copies for one module -/
theorem m_take {g : zS} {lv : Nat → Nat} {b c rem a m : Nat} (hm4 : m < 4) (h6 : g 6 m = nI (Z m)) (h5 : g 5 m = nI (F m)) (hb : F m + Z m ≤ 16) (hz4 : Z m ≤ 4) (hbc : b + c ≤ 240) (hac : a + rem = c) (hr : Z m ≤ rem) (hl : ∀ j, j < Z m → g 28 (b + (a + j)) = nI (lv (a + j))) : ∃ g', f_X4_send_L210 (nI c) (nI b) (nI m) 1 100 (nI rem) 0 g = some (nI (rem - Z m), g') ∧ (∀ c, c ≠ 8 → g' c = g c) ∧ (∀ l, F m ≤ l → l < F m + Z m → g' 8 l = nI (lv (a + (l - F m)))) ∧ (∀ l, (l < F m ∨ F m + Z m ≤ l) → g' 8 l = g 8 l) := by
  obtain ⟨x, d1, d2⟩ := zl_inv (fun k i (x : Int32 × zS) => f_X4_send_L210 (nI c) (nI b) (nI m) 1 k x.1 (nI i) x.2) (Z m) (fun i x => x.1 = nI (rem - i) ∧ (∀ c, c ≠ 8 → x.2 c = g c) ∧ (∀ l, F m ≤ l → l < F m + i → x.2 8 l = nI (lv (a + (l - F m)))) ∧ (∀ l, (l < F m ∨ F m + i ≤ l) → x.2 8 l = g 8 l)) (fun x => x)
    (fun k x hI => by
      obtain ⟨w, x⟩ := x
      obtain ⟨i1, i2, i3, i4⟩ := hI
      have i2 : ∀ c, c ≠ 8 → x c = g c := i2
      show f_X4_send_L210 (nI c) (nI b) (nI m) 1 (k + 1) w (nI (Z m)) x = some (w, x)
      rw [f_X4_send_L210, q_rd hm4 (by decide), i2 6 (by decide), h6, if_pos (nI_le (Nat.le_refl _) (by omega))])
    (fun k i x hi hI => by
      obtain ⟨w, x⟩ := x
      obtain ⟨i1, i2, i3, i4⟩ := hI
      have i1 : w = nI (rem - i) := i1
      have i2 : ∀ c, c ≠ 8 → x c = g c := i2
      have i3 : ∀ l, F m ≤ l → l < F m + i → x 8 l = nI (lv (a + (l - F m))) := i3
      have i4 : ∀ l, (l < F m ∨ F m + i ≤ l) → x 8 l = g 8 l := i4
      refine ⟨(nI (rem - (i + 1)), va_up x 8 (upd (x 8) (F m + i) (g 28 (b + (a + i))))), ⟨rfl, ?_, ?_, ?_⟩, ?_⟩
      · intro c hc
        show va_up x 8 _ c = g c
        rw [q_upn hc, i2 c hc]
      · intro l l1 l2
        show upd (x 8) (F m + i) (g 28 (b + (a + i))) l = _
        by_cases e : l = F m + i
        · subst e
          rw [q_upd, hl i hi, show a + i = a + (F m + i - F m) by omega]
        · rw [q_updn e, i3 l l1 (by omega)]
      · intro l l1
        show upd (x 8) (F m + i) (g 28 (b + (a + i))) l = _
        rw [q_updn (by omega), i4 l (by omega)]
      · show f_X4_send_L210 (nI c) (nI b) (nI m) 1 (k + 1) w (nI i) x = f_X4_send_L210 (nI c) (nI b) (nI m) 1 k (nI (rem - (i + 1))) (nI (i + 1)) _
        rw [f_X4_send_L210, q_rd hm4 (by decide), i2 6 (by decide), h6, if_neg (nI_ge hi (by omega)), if_neg i10, q_rd hm4 (by decide), i2 5 (by decide), h5, i1, nI_add, pk_sub (by omega), show b + c - (rem - i) = b + (a + i) by omega, q_rd (show b + (a + i) < 240 by omega) (by decide), i2 28 (by decide), nI_add, q_in (show F m + i < 16 by omega) (by decide), q_lt, q_cl (by omega), nI_1, show rem - i = (rem - (i + 1)) + 1 by omega, pk_m1])
    (Z m) 0 (nI rem, g) 100 (by omega) ⟨rfl, fun _ _ => rfl, fun l l1 l2 => by omega, fun _ _ => rfl⟩ (by omega)
  refine ⟨x.2, ?_, d1.2.1, d1.2.2.1, d1.2.2.2⟩
  rw [← d1.1]
  exact d2
/-- a module that takes nothing -/
theorem m_take0 {g : zS} {b c m : Nat} {w : Int32} (hm4 : m < 4) (h6 : g 6 m = nI (Z m)) (hz : 1 ≤ Z m ∧ Z m ≤ 4) : f_X4_send_L210 (nI c) (nI b) (nI m) 0 100 w 0 g = some (w, g) := by
  rw [f_X4_send_L210, q_rd hm4 (by decide), h6, if_neg (show ¬ nI (Z m) ≤ 0 from nI_nle (by omega) (by omega)), if_pos i00]
/-- once it stops -/
theorem m_rest {g : zS} {b c : Nat} {w : Int32} (h : zDat M L C F Z K dd V hm) (hW : zMod g M L C F Z K dd V hm) : ∀ d m km, m + d = M → d < km → f_X4_send_L136 (nI c) (nI b) km w 0 (nI m) g = some (w, g)
  | 0, m, km, hd, hk => by
    obtain ⟨km, rfl⟩ : ∃ z, km = z + 1 := ⟨km - 1, by omega⟩
    have := h.1
    rw [f_X4_send_L136, hW.1, if_pos (nI_le (by omega) (by omega))]
  | d + 1, m, km, hd, hk => by
    obtain ⟨km, rfl⟩ : ∃ z, km = z + 1 := ⟨km - 1, by omega⟩
    have h4 := h.1
    have hm4 : m < 4 := by omega
    obtain ⟨a1, a2, a3, a4⟩ := hW.2.2.2.1 m (by omega)
    have hz := h.2.2.1 m (by omega)
    have ih := m_rest (b := b) (c := c) (w := w) h hW d (m + 1) km (by omega) (by omega)
    rw [f_X4_send_L136, hW.1, if_neg (nI_ge (by omega) (by omega)), q_rd hm4 (by decide)]
    have hJ : f_X4_send_J176 (nI c) (nI b) (f_X4_send_L136 (nI c) (nI b) km) w 0 (nI m) g = some (w, g) := by
      unfold f_X4_send_J176 f_X4_send_J177
      rw [if_pos i00, m_take0 hm4 a3 ⟨hz.2.1, hz.2.2.1⟩, q_b2, nI_1]
      exact ih
    by_cases e : g 7 m = 0
    · rw [if_pos e, if_pos i00, hJ]
    · rw [if_neg e, hJ]
theorem j_take {s0 n0 g0 : zS} {lv : Nat → Nat} {k i c : Nat} (hc : c ≤ 20) (hic : i + c ≤ 60) (hk : k < 4) (hs : ∀ p, i ≤ p → p < i + c → s0 0 p = g0 28 (60 * k + p)) (hl : ∀ p, i ≤ p → p < i + c → s0 0 p = nI (lv p) ∧ lv p ≤ 9) : ∀ d m a (n g : zS) (V : Nat → Nat) kx km, m + d = M → a ≤ c → d < kx → d < km → zDat M L C F Z K dd V hm → zWal n M L C F Z K dd V hm → zMod g M L C F Z K dd V hm → (∀ z, z ≠ 8 → g z = g0 z) → n 3 = n0 3 → ∃ (a' : Nat) (n' g' : zS) (V' : Nat → Nat), a' ≤ c ∧ (f_X2_takeLevels_L6 s0 (nI i) (nI c) kx (nI a) (nI m) n = some (Sum.inl (nI a', n')) ∨ f_X2_takeLevels_L6 s0 (nI i) (nI c) kx (nI a) (nI m) n = some (Sum.inr (nI a', n'))) ∧ f_X4_send_L136 (nI c) (nI (60 * k + i)) km (nI (c - a)) 1 (nI m) g = some (nI (c - a'), g') ∧ zDat M L C F Z K dd V' hm ∧ zWal n' M L C F Z K dd V' hm ∧ zMod g' M L C F Z K dd V' hm ∧ (∀ z, z ≠ 8 → g' z = g0 z) ∧ n' 3 = n0 3
  | 0, m, a, n, g, V, kx, km, hd, ha, h1, h2, hD, hW, hM, hg, hn => by
    obtain ⟨kx, rfl⟩ : ∃ z, kx = z + 1 := ⟨kx - 1, by omega⟩
    obtain ⟨km, rfl⟩ : ∃ z, km = z + 1 := ⟨km - 1, by omega⟩
    have := hD.1
    refine ⟨a, n, g, V, ha, Or.inl ?_, ?_, hD, hW, hM, hg, hn⟩
    · rw [f_X2_takeLevels_L6, hW.1, if_pos (nI_le (by omega) (by omega))]
    · rw [f_X4_send_L136, hM.1, if_pos (nI_le (by omega) (by omega))]
  | d + 1, m, a, n, g, V, kx, km, hd, ha, h1, h2, hD, hW, hM, hg, hn => by
    obtain ⟨kx, rfl⟩ : ∃ z, kx = z + 1 := ⟨kx - 1, by omega⟩
    obtain ⟨km, rfl⟩ : ∃ z, km = z + 1 := ⟨km - 1, by omega⟩
    have h4 := hD.1
    have hmM : m < M := by omega
    have hm4 : m < 4 := by omega
    have hL := hD.l16
    have hb := hD.blk hmM
    obtain ⟨a1, a2, a3, a4⟩ := hM.2.2.2.1 m hmM
    obtain ⟨b1, b2, b3, b4⟩ := hW.2.2.2.1 m hmM
    have hz := hD.2.2.1 m hmM
    rw [f_X2_takeLevels_L6, hW.1, if_neg (nI_ge (by omega) (by omega)), q_rd (a := n 3) hm4 (by decide), f_X4_send_L136, hM.1, if_neg (nI_ge (by omega) (by omega)), q_rd (a := g 7) hm4 (by decide), a4, b4]
    have hdm := hz.2.2.2.2
    rcases (show dd m = 0 ∨ dd m = 1 by omega) with e | e
    rotate_left
    · -- dead
      rw [e, if_neg (show ¬ nI 1 = 0 by decide), if_neg (show ¬ nI 1 = 0 by decide)]
      unfold f_X4_send_J176 f_X4_send_J177
      rw [if_neg i10, q_rd hm4 (by decide), a4, e, if_pos (show nI 1 = 1 from rfl), m_take0 hm4 a3 ⟨hz.2.1, hz.2.2.1⟩, q_b2, nI_1]
      exact j_take hc hic hk hs hl d (m + 1) a n g V kx km (by omega) ha (by omega) (by omega) hD hW hM hg hn
    rw [e, if_pos (show nI 0 = 0 from rfl), if_pos (show nI 0 = 0 from rfl), if_neg i10, q_rd (a := n 2) hm4 (by decide), q_rd (a := g 6) hm4 (by decide), a3, b3, pk_sub ha]
    by_cases cz : Z m ≤ c - a
    rotate_left
    · -- it stops
      rw [if_neg (nI_ge (by omega) (by omega)), if_pos (nI_lt (by omega) (by omega))]
      unfold f_X4_send_J176 f_X4_send_J177
      rw [if_neg i10, q_rd hm4 (by decide), a4, e, if_neg (show ¬ nI 0 = 1 by decide), if_pos i00, m_take0 hm4 a3 ⟨hz.2.1, hz.2.2.1⟩, q_b2, nI_1, m_rest hD hM d (m + 1) km (by omega) (by omega)]
      exact ⟨a, n, g, V, ha, Or.inr rfl, rfl, hD, hW, hM, hg, hn⟩
    rw [if_pos (nI_le cz (by omega)), if_neg (nI_nlt cz (by omega)), q_rd hm4 (by decide), b2, q_rd hm4 (by decide), b3]
    obtain ⟨g', t1, t2, t3, t4⟩ := m_take (g := g) (lv := fun z => lv (i + z)) (b := 60 * k + i) (c := c) (rem := c - a) (a := a) (m := m) (F := F) (Z := Z) hm4 a3 a2 (by omega) hz.2.2.1 (by omega) (by omega) cz (fun j hj => by
      rw [hg 28 (by decide), show 60 * k + i + (a + j) = 60 * k + (i + (a + j)) by omega, ← hs _ (by omega) (by omega)]
      exact (hl _ (by omega) (by omega)).1)
    unfold f_X4_send_J177
    rw [if_neg i10, q_rd hm4 (by decide), a4, e, if_neg (show ¬ nI 0 = 1 by decide), if_neg i10, t1, q_b2, nI_1, nI_add]
    unfold zq_cp
    rw [q_cl (by omega), q_cl (by omega), q_cl (by omega), if_pos ⟨⟨nI_pos (by omega), nI_pos (by omega), nI_pos (by omega)⟩, ⟨by omega, by omega⟩, fun _ _ => rfl⟩, q_lt]
    rw [q_rd hm4 (by decide), show (va_up n 4 (va_cpy (s0 0) (n 4) (i + a) (F m) (Z m))) 2 m = n 2 m from rfl, b3, nI_add, show c - a - Z m = c - (a + Z m) by omega]
    refine j_take hc hic hk hs hl d (m + 1) (a + Z m) (va_up n 4 (va_cpy (s0 0) (n 4) (i + a) (F m) (Z m))) g' (zvt V lv (F m) (Z m) (i + a)) kx km (by omega) (by omega) (by omega) (by omega) ?_ ?_ ?_ ?_ hn
    · refine zDat_V hD (fun l hl' => ?_)
      by_cases r : F m ≤ l ∧ l < F m + Z m
      · rw [zvt_in r.1 r.2]
        exact (hl _ (by omega) (by omega)).2
      · rw [zvt_out (by omega)]
        exact hD.2.2.2.2.2.1 l hl'
    · obtain ⟨w1, w2, w3, w4, w5, w6⟩ := hW
      refine ⟨w1, w2, w3, w4, fun l hl' => ⟨?_, (w5 l hl').2⟩, w6⟩
      show va_cpy (s0 0) (n 4) (i + a) (F m) (Z m) l = _
      by_cases r : F m ≤ l ∧ l < F m + Z m
      · rw [zvt_in r.1 r.2, pk_cpy_in r.1 r.2]
        exact (hl _ (by omega) (by omega)).1
      · rw [zvt_out (by omega), pk_cpy_out (by omega)]
        exact (w5 l hl').1
    · obtain ⟨w1, w2, w3, w4, w5⟩ := hM
      refine ⟨by rw [t2 1 (by decide)]; exact w1, by rw [t2 2 (by decide)]; exact w2, by rw [t2 3 (by decide)]; exact w3, fun j hj => by rw [t2 4 (by decide), t2 5 (by decide), t2 6 (by decide), t2 7 (by decide)]; exact w4 j hj, fun l hl' => ⟨?_, by rw [t2 9 (by decide)]; exact (w5 l hl').2⟩⟩
      by_cases r : F m ≤ l ∧ l < F m + Z m
      · rw [zvt_in r.1 r.2, t3 l r.1 r.2, show i + (a + (l - F m)) = i + a + (l - F m) by omega]
      · rw [zvt_out (by omega), t4 l (by omega)]
        exact (w5 l hl').1
    · intro z hz'
      rw [t2 z hz', hg z hz']
end ZN
theorem p_send {o : zS} {s : zS4} {n : zS} {t : zS} {r : zS} {g : zS} (h : zRel o s n t r g) (x1 x2 x3 x4 : Int32) : ∃ (r0 : Int32) (o' : zS) (n' : zS) (g' : zS), f_X3_send o s n x1 x2 x3 x4 = some (r0, o', n') ∧ f_X4_send g x1 x2 x3 x4 = some (r0, g') ∧ zRel o' s n' t r g' := by
  obtain ⟨e1, e2, e3, e4, e5, M, L, C, F, Z, K, dd, V, hm, q, ru, rl, rz, hD, hW, hM, hR⟩ := id h
  unfold f_X3_send f_X4_send
  rw [q_lt]
  have h0 : (0 : Int64).toInt = 0 := by decide
  have h20 : (20 : Int64).toInt = 20 := by decide
  rcases k_sheet x1 with ⟨k, hk, rfl, hx, hm2⟩ | ⟨hx, hm2⟩
  rotate_left
  · rw [hx, hm2, q_b1, q_b1, if_pos i00, if_neg i10]
    exact ⟨_, _, _, _, rfl, rfl, zRel_f h 0⟩
  rw [hx, hm2, q_b1, q_b1, if_neg i10, if_pos i00]
  rcases k_lane x2 with ⟨w, hw, rfl, hx, hm2⟩ | ⟨hx, hm2⟩
  rotate_left
  · rw [hx, hm2, q_b1, q_b1, if_pos i00, if_pos i00]
    exact ⟨_, _, _, _, rfl, rfl, zRel_f h 0⟩
  rw [hx, hm2, q_b1, q_b1, if_neg i10, if_neg i10]
  rcases q_rng x4 0 20 (by decide) with ⟨c, -, hc, rfl⟩ | hj
  rotate_left
  · rw [q_inF (by rw [h0, h20]; omega), q_b1, if_pos i00]
    by_cases c : x4 < 0
    · rw [if_pos c]
      exact ⟨_, _, _, _, rfl, rfl, zRel_f h 0⟩
    · rw [if_neg c, if_neg (by rw [q_le x4 20 (by decide)]; rw [q_l x4 0 (by decide)] at c; omega)]
      exact ⟨_, _, _, _, rfl, rfl, zRel_f h 0⟩
  rw [if_neg (nI_pos (by omega)), if_pos (show nI c ≤ 20 from nI_le hc (by decide)), q_inT (by rw [h0, h20, q_ti (by omega)]; omega), q_b1, if_neg i10]
  rcases k_stands hD.1 hW.1 hM.1 with ⟨hp, hs1, hs2⟩ | ⟨hp, hs1, hs2⟩
  rotate_left
  · rw [hs1, q_b1, if_pos i00, if_pos hs2]
    exact ⟨_, _, _, _, rfl, rfl, zRel_f h 0⟩
  rw [hs1, q_b1, if_neg i10, if_neg hs2, q_in hk (by decide), q_cl (by omega)]
  rcases j_cells hk (e5 k hk) (nI w) x3 (c := c) (by omega) with ⟨v, v1, v2, hx, hm2⟩ | ⟨i, rfl, hi, hx, hm2, hcell⟩
  · rw [hx, hm2, q_b1, q_b2, if_neg (nI_ne0 v1 (by omega))]
    have hv : ¬ (0 ≤ (-10) - nI v) := by
      have : ∀ v : Fin 4, ¬ (0 ≤ (-10) - nI v.val) := by decide
      exact this ⟨v, by omega⟩
    rw [if_neg hv]
    exact ⟨_, _, _, _, rfl, rfl, zRel_f2 h (nI v) 0⟩
  rw [hx, hm2, q_b1, q_b2, if_pos i00, if_pos (by decide), show (60 : Int32) = nI 60 from rfl, pk_mul, nI_add]
  rcases j_levels (s := s) hk hi hcell c 0 100 100 (by omega) (by omega) (by omega) with ⟨a1, a2, a3⟩ | ⟨a1, a2⟩
  rotate_left
  · have a1 : f_X3_send_L83 s k (nI i) (nI c) 100 (nI i) = some (Sum.inr ()) := a1
    have a2 : f_X4_send_L90 g (nI c) (nI (60 * k + i)) 100 0 = some (Sum.inr ()) := a2
    rw [a1, a2]
    exact ⟨_, _, _, _, rfl, rfl, zRel_f h 0⟩
  have a1 : f_X3_send_L83 s k (nI i) (nI c) 100 (nI i) = some (Sum.inl ()) := a1
  have a2 : f_X4_send_L90 g (nI c) (nI (60 * k + i)) 100 0 = some (Sum.inl ()) := a2
  have hlv : ∀ p, i ≤ p → p < i + c → s k 0 p = nI ((s k 0 p).toNatClampNeg) ∧ (s k 0 p).toNatClampNeg ≤ 9 := by
    intro p p1 p2
    obtain ⟨v, hv, ev⟩ := a3 p p1 p2
    rw [ev, q_cl (by omega)]
    exact ⟨rfl, hv⟩
  have hM0 := hD.1
  obtain ⟨a', n', g', V', z1, z2, z3, z4, z5, z6, z7, z8⟩ := j_take (n0 := n) (g0 := g) (lv := fun p => (s k 0 p).toNatClampNeg) hc hi hk hcell hlv M 0 0 n g V 100 100 (by omega) (by omega) (by omega) (by omega) hD hW hM (fun _ _ => rfl) rfl
  have z3 : f_X4_send_L136 (nI c) (nI (60 * k + i)) 100 (nI c) 1 0 g = some (nI (c - a'), g') := z3
  have hx2 : f_X2_takeLevels n (s k) (nI i) (nI c) = some (nI a', n') := by
    unfold f_X2_takeLevels
    rcases z2 with z2 | z2
    · have z2 : f_X2_takeLevels_L6 (s k) (nI i) (nI c) 100 0 0 n = some (Sum.inl (nI a', n')) := z2
      rw [z2]
      rfl
    · have z2 : f_X2_takeLevels_L6 (s k) (nI i) (nI c) 100 0 0 n = some (Sum.inr (nI a', n')) := z2
      rw [z2]
      rfl
  rw [a1, a2, z3]
  show ∃ r0 o' n'_1 g'_1, zq_b2 (f_X2_takeLevels n (s k) (nI i) (nI c)) _ = _ ∧ _
  rw [hx2, q_b2, pk_sub z1]
  refine ⟨_, _, _, _, rfl, rfl, ?_⟩
  refine ⟨?_, rfl, zB4_e e3 z8, e4, ?_, M, L, C, F, Z, K, dd, V', hm, q, ru, rl, rz, z4, z5, ?_, ?_⟩
  · show o 5 0 = g' 30 0
    rw [z7 30 (by decide)]
    exact e1
  · intro j hj
    have := e5 j hj
    unfold zSh1 at this ⊢
    rw [q_upn (by decide), q_upn (by decide), q_upn (by decide), z7 26 (by decide), z7 27 (by decide), z7 28 (by decide)]
    exact this
  · obtain ⟨m1, m2, m3, m4, m5⟩ := z6
    exact ⟨m1, m2, m3, m4, m5⟩
  · exact zRd_g hR (fun z z1 z2 => by rw [q_upn (by omega), z7 z (by omega)])
