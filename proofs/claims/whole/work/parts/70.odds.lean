/-! the odds: ways, as numbers -/
def zw (w : zJ) (W : Nat → Nat) : Prop := ∀ j, j < 17 → w j = lN (W j)
def zws (W : Nat → Nat) (c j : Nat) : Nat := W j * (10 - c) + (if j = 0 then 0 else W (j - 1) * c)
def zlc (k p : Nat) : Nat := ((f_X3_levelsThatLight (nI k) (nI p)).getD 0).toNatClampNeg
set_option maxRecDepth 100000 in
theorem zlc_t : ∀ k : Fin 3, ∀ p : Fin 4, f_X3_levelsThatLight (nI k.val) (nI p.val) = some (nI (zlc k.val p.val)) ∧ f_X4_levelsLit (nI k.val) (nI p.val) = some (nI (zlc k.val p.val)) ∧ zlc k.val p.val ≤ 10 := by decide +kernel
theorem zlc_e {k p : Nat} (hk : k ≤ 2) (hp : p < 4) : f_X3_levelsThatLight (nI k) (nI p) = some (nI (zlc k p)) ∧ f_X4_levelsLit (nI k) (nI p) = some (nI (zlc k p)) ∧ zlc k p ≤ 10 := zlc_t ⟨k, by omega⟩ ⟨p, hp⟩
theorem q_10 {c : Nat} (hc : c ≤ 10) : (10 : Int32) - nI c = nI (10 - c) := pk_sub (a := 10) hc
theorem x_addL {W : Nat → Nat} {c : Nat} (hc : c ≤ 10) : ∀ j f (w : zJ), j ≤ 16 → j < f → (∀ i, i < 17 → j < i → w i = lN (zws W c i)) → (∀ i, i ≤ j → w i = lN (W i)) → ∃ w', f_X3_addLampToWays_L8 (nI c) (nI (10 - c)) f (nI j) w = some w' ∧ (∀ i, i < 17 → 0 < i → w' i = lN (zws W c i)) ∧ w' 0 = lN (W 0)
  | 0, f, w, hj, hf, h1, h2 => by
    obtain ⟨f, rfl⟩ : ∃ z, f = z + 1 := ⟨f - 1, by omega⟩
    refine ⟨w, ?_, fun i hi h0 => h1 i hi h0, h2 0 (by omega)⟩
    rw [f_X3_addLampToWays_L8, if_pos (by decide)]
  | j + 1, f, w, hj, hf, h1, h2 => by
    obtain ⟨f, rfl⟩ : ∃ z, f = z + 1 := ⟨f - 1, by omega⟩
    rw [f_X3_addLampToWays_L8, if_neg (nI_nle (by omega) (by omega)), q_rd (show j + 1 < 17 by omega) (by decide), nI_pred, q_rd (show j < 17 by omega) (by decide), q_in (show j + 1 < 17 by omega) (by decide), q_lt, q_cl (by omega), pk_m1, nI_l (by omega), nI_l (by omega), h2 (j + 1) (by omega), h2 j (by omega), lN_mul, lN_mul, lN_add]
    refine x_addL hc j f _ (by omega) (by omega) (fun i i1 i2 => ?_) (fun i i1 => ?_)
    · by_cases e : i = j + 1
      · subst e
        rw [pk_uLs]
        unfold zws
        rw [if_neg (by omega), Nat.add_sub_cancel]
      · rw [pk_uLn e, h1 i i1 (by omega)]
    · rw [pk_uLn (by omega), h2 i (by omega)]
theorem x_add {W : Nat → Nat} {c : Nat} (hc : c ≤ 10) {w : zJ} (hw : zw w W) : ∃ w', f_X3_addLampToWays w (nI c) = some w' ∧ zw w' (zws W c) := by
  obtain ⟨w1, a1, a2, a3⟩ := x_addL (W := W) hc 16 100 w (by omega) (by omega) (fun i i1 i2 => by omega) (fun i i1 => hw i (by omega))
  have a1 : f_X3_addLampToWays_L8 (nI c) (nI (10 - c)) 100 16 w = some w1 := a1
  refine ⟨vp_updL w1 0 (w1 0 * lN (10 - c)), ?_, ?_⟩
  · unfold f_X3_addLampToWays
    rw [q_10 hc, a1, q_b1, show (0 : Int32) = nI 0 from rfl, q_rd (show 0 < 17 by omega) (by decide), q_in (show 0 < 17 by omega) (by decide), q_lt, nI_l (by omega), q_cl (by omega)]
  · intro j hj
    by_cases e : j = 0
    · subst e
      rw [pk_uLs, a3, lN_mul]
      rfl
    · rw [pk_uLn e, a2 j hj (by omega)]
theorem m_addL {W : Nat → Nat} {c : Nat} (hc : c ≤ 10) : ∀ j f (w : zJ), j ≤ 16 → j + 1 < f → (∀ i, i < 17 → j < i → w i = lN (zws W c i)) → (∀ i, i ≤ j → w i = lN (W i)) → ∃ w', f_X4_addsLamp_L3 (nI c) f (nI j) w = some w' ∧ zw w' (zws W c)
  | 0, f, w, hj, hf, h1, h2 => by
    obtain ⟨f, rfl⟩ : ∃ z, f = z + 2 := ⟨f - 2, by omega⟩
    refine ⟨vp_updL w 0 (w 0 * lN (10 - c) + 0), ?_, ?_⟩
    · rw [f_X4_addsLamp_L3, if_neg (nI_pos (by omega)), if_pos (show nI 0 ≤ 0 by decide), q_rd (show 0 < 17 by omega) (by decide), q_in (show 0 < 17 by omega) (by decide), q_lt, q_10 hc, nI_l (by omega), q_cl (by omega), f_X4_addsLamp_L3, if_pos (by decide)]
    · intro j hj
      by_cases e : j = 0
      · subst e
        rw [pk_uLs, h2 0 (by omega), lN_mul, show (0 : Int64) = lN 0 from rfl, lN_add]
        rfl
      · rw [pk_uLn e, h1 j hj (by omega)]
  | j + 1, f, w, hj, hf, h1, h2 => by
    obtain ⟨f, rfl⟩ : ∃ z, f = z + 1 := ⟨f - 1, by omega⟩
    rw [f_X4_addsLamp_L3, if_neg (nI_pos (by omega)), if_neg (nI_nle (by omega) (by omega)), nI_pred, q_rd (show j < 17 by omega) (by decide), q_rd (show j + 1 < 17 by omega) (by decide), q_in (show j + 1 < 17 by omega) (by decide), q_lt, q_cl (by omega), pk_m1, q_10 hc, nI_l (by omega), nI_l (by omega), h2 (j + 1) (by omega), h2 j (by omega), lN_mul, lN_mul, lN_add]
    refine m_addL hc j f _ (by omega) (by omega) (fun i i1 i2 => ?_) (fun i i1 => ?_)
    · by_cases e : i = j + 1
      · subst e
        rw [pk_uLs]
        unfold zws
        rw [if_neg (by omega), Nat.add_sub_cancel]
      · rw [pk_uLn e, h1 i i1 (by omega)]
    · rw [pk_uLn (by omega), h2 i (by omega)]
theorem m_add {W : Nat → Nat} {c : Nat} (hc : c ≤ 10) {w : zJ} (hw : zw w W) : ∃ w', f_X4_addsLamp w (nI c) = some w' ∧ zw w' (zws W c) := by
  obtain ⟨w1, a1, a2⟩ := m_addL (W := W) hc 16 100 w (by omega) (by omega) (fun i i1 i2 => by omega) (fun i i1 => hw i (by omega))
  have a1 : f_X4_addsLamp_L3 (nI c) 100 16 w = some w1 := a1
  refine ⟨w1, ?_, a2⟩
  unfold f_X4_addsLamp
  rw [a1]
  rfl
theorem zws_sum {W : Nat → Nat} {c : Nat} (hc : c ≤ 10) : ∀ k, zsum (zws W c) (k + 1) + W k * c = 10 * zsum W (k + 1)
  | 0 => by
    show 0 + (W 0 * (10 - c) + 0) + W 0 * c = 10 * (0 + W 0)
    have : W 0 * (10 - c) + W 0 * c = W 0 * 10 := by rw [← Nat.mul_add, Nat.sub_add_cancel hc]
    omega
  | k + 1 => by
    have ih := zws_sum (W := W) hc k
    show zsum (zws W c) (k + 1) + (W (k + 1) * (10 - c) + (if k + 1 = 0 then 0 else W (k + 1 - 1) * c)) + W (k + 1) * c = 10 * (zsum W (k + 1) + W (k + 1))
    rw [if_neg (by omega), Nat.add_sub_cancel]
    have : W (k + 1) * (10 - c) + W (k + 1) * c = W (k + 1) * 10 := by rw [← Nat.mul_add, Nat.sub_add_cancel hc]
    omega
section ZO
variable {n g : zS} {M L C : Nat} {F Z K dd V hm : Nat → Nat} {p : Nat}
/-- the ways after l lamps; those that live -/
def zwl (K dd hm : Nat → Nat) (p : Nat) : Nat → Nat → Nat
  | 0 => fun j => if j = 0 then 1 else 0
  | l + 1 => if dd (hm l) = 0 then zws (zwl K dd hm p l) (zlc (K (hm l)) p) else zwl K dd hm p l
def zal (dd hm : Nat → Nat) : Nat → Nat
  | 0 => 0
  | l + 1 => if dd (hm l) = 0 then zal dd hm l + 1 else zal dd hm l
theorem zal_le (dd hm : Nat → Nat) : ∀ l, zal dd hm l ≤ l
  | 0 => Nat.le_refl 0
  | l + 1 => by
    have := zal_le dd hm l
    show (if dd (hm l) = 0 then zal dd hm l + 1 else zal dd hm l) ≤ l + 1
    split <;> omega
theorem zwl_sum (hc : ∀ l, l < L → zlc (K (hm l)) p ≤ 10) (hL : L ≤ 16) : ∀ l, l ≤ L → zsum (zwl K dd hm p l) 17 = 10 ^ zal dd hm l ∧ ∀ j, zal dd hm l < j → zwl K dd hm p l j = 0
  | 0, _ => ⟨rfl, fun j hj => if_neg (by have : zal dd hm 0 = 0 := rfl; omega)⟩
  | l + 1, h => by
    obtain ⟨i1, i2⟩ := zwl_sum hc hL l (by omega)
    have ha := zal_le dd hm l
    show zsum (if dd (hm l) = 0 then zws (zwl K dd hm p l) (zlc (K (hm l)) p) else zwl K dd hm p l) 17 = 10 ^ (if dd (hm l) = 0 then zal dd hm l + 1 else zal dd hm l) ∧ ∀ j, (if dd (hm l) = 0 then zal dd hm l + 1 else zal dd hm l) < j → (if dd (hm l) = 0 then zws (zwl K dd hm p l) (zlc (K (hm l)) p) else zwl K dd hm p l) j = 0
    by_cases c : dd (hm l) = 0
    · rw [if_pos c, if_pos c]
      have s := zws_sum (W := zwl K dd hm p l) (hc l (by omega)) 16
      rw [i2 16 (by omega), Nat.zero_mul, Nat.add_zero, i1] at s
      refine ⟨?_, fun j hj => ?_⟩
      · show zsum (zws (zwl K dd hm p l) (zlc (K (hm l)) p)) (16 + 1) = _
        rw [s, Nat.pow_succ, Nat.mul_comm]
      · unfold zws
        rw [i2 j (by omega), if_neg (by omega), i2 (j - 1) (by omega), Nat.zero_mul, Nat.zero_mul]
    · rw [if_neg c, if_neg c]
      exact ⟨i1, i2⟩
theorem x_ways1 (h : zDat M L C F Z K dd V hm) (hW : zWal n M L C F Z K dd V hm) (hp : p < 4) {m : Nat} (hm' : m < M) (hd : dd m = 0) : ∀ d j f (w : zJ), j + d = Z m → d < f → zw w (zwl K dd hm p (F m + j)) → ∃ w', f_X3_countWays_L61 n (nI m) (nI (zlc (K m) p)) f (nI j) w = some w' ∧ zw w' (zwl K dd hm p (F m + Z m))
  | 0, j, f, w, hj, hf, h1 => by
    obtain ⟨f, rfl⟩ : ∃ z, f = z + 1 := ⟨f - 1, by omega⟩
    have hm4 : m < 4 := Nat.lt_of_lt_of_le hm' h.1
    obtain ⟨b1, b2, b3, b4⟩ := hW.2.2.2.1 m hm'
    have hz := h.2.2.1 m hm'
    refine ⟨w, ?_, ?_⟩
    · rw [f_X3_countWays_L61, q_rd hm4 (by decide), b3, if_pos (nI_le (by omega) (by omega))]
    · rw [show F m + Z m = F m + j by omega]
      exact h1
  | d + 1, j, f, w, hj, hf, h1 => by
    obtain ⟨f, rfl⟩ : ∃ z, f = z + 1 := ⟨f - 1, by omega⟩
    have hm4 : m < 4 := Nat.lt_of_lt_of_le hm' h.1
    obtain ⟨b1, b2, b3, b4⟩ := hW.2.2.2.1 m hm'
    have hz := h.2.2.1 m hm'
    have hh := h.2.2.2.2.1 m j hm' (by omega)
    obtain ⟨w1, a1, a2⟩ := x_add (zlc_e hz.2.2.2.1 hp).2.2 h1
    rw [f_X3_countWays_L61, q_rd (a := n 2) hm4 (by decide), b3, if_neg (nI_ge (by omega) (by omega)), q_rd hm4 (by decide), b4, hd, if_pos (show nI 0 = 0 from rfl), a1, q_b1, nI_1]
    refine x_ways1 h hW hp hm' hd d (j + 1) f w1 (by omega) (by omega) ?_
    show zw w1 (if dd (hm (F m + j)) = 0 then zws (zwl K dd hm p (F m + j)) (zlc (K (hm (F m + j))) p) else zwl K dd hm p (F m + j))
    rw [hh, if_pos hd]
    exact a2
theorem zwl_dead (h : zDat M L C F Z K dd V hm) {m : Nat} (hm' : m < M) (hd : ¬ dd m = 0) : ∀ j, j ≤ Z m → zwl K dd hm p (F m + j) = zwl K dd hm p (F m)
  | 0, _ => rfl
  | j + 1, hj => by
    have hh := h.2.2.2.2.1 m j hm' (by omega)
    show (if dd (hm (F m + j)) = 0 then zws (zwl K dd hm p (F m + j)) (zlc (K (hm (F m + j))) p) else zwl K dd hm p (F m + j)) = _
    rw [hh, if_neg hd]
    exact zwl_dead h hm' hd j (by omega)
theorem x_ways (h : zDat M L C F Z K dd V hm) (hW : zWal n M L C F Z K dd V hm) (hp : p < 4) : ∀ d m f (w : zJ), m + d = M → d < f → zw w (zwl K dd hm p (F m)) → ∃ w', f_X3_countWays_L17 n (nI p) f (nI m) w = some w' ∧ zw w' (zwl K dd hm p L)
  | 0, m, f, w, hj, hf, h1 => by
    obtain ⟨f, rfl⟩ : ∃ z, f = z + 1 := ⟨f - 1, by omega⟩
    have := h.1
    refine ⟨w, ?_, ?_⟩
    · rw [f_X3_countWays_L17, hW.1, if_pos (nI_le (by omega) (by omega))]
    · rw [h.2.2.2.1, show M = m by omega]
      exact h1
  | d + 1, m, f, w, hj, hf, h1 => by
    obtain ⟨f, rfl⟩ : ∃ z, f = z + 1 := ⟨f - 1, by omega⟩
    have hM4 := h.1
    have hm' : m < M := by omega
    have hm4 : m < 4 := by omega
    obtain ⟨b1, b2, b3, b4⟩ := hW.2.2.2.1 m hm'
    have hz := h.2.2.1 m hm'
    rw [f_X3_countWays_L17, hW.1, if_neg (nI_ge (by omega) (by omega)), q_rd hm4 (by decide), b4]
    by_cases hd : dd m = 0
    · obtain ⟨w1, a1, a2⟩ := x_ways1 h hW hp hm' hd (Z m) 0 100 w (by omega) (by omega) h1
      have a1 : f_X3_countWays_L61 n (nI m) (nI (zlc (K m) p)) 100 0 w = some w1 := a1
      rw [hd, if_pos (show nI 0 = 0 from rfl), q_rd hm4 (by decide), b1, (zlc_e hz.2.2.2.1 hp).1, q_b1, a1, q_b1, nI_1]
      refine x_ways h hW hp d (m + 1) f w1 (by omega) (by omega) ?_
      rw [hz.1]
      exact a2
    · have e1 : dd m = 1 := by
        have := hz.2.2.2.2
        omega
      have a1 : f_X3_countWays_L61 n (nI m) 0 100 0 w = some w := by
        rw [f_X3_countWays_L61, q_rd (a := n 2) hm4 (by decide), b3, if_neg (show ¬ nI (Z m) ≤ 0 from nI_nle (by omega) (by omega)), q_rd hm4 (by decide), b4, e1, if_neg (show ¬ nI 1 = 0 by decide)]
      rw [e1, if_neg (show ¬ nI 1 = 0 by decide), a1, q_b1, nI_1]
      refine x_ways h hW hp d (m + 1) f w (by omega) (by omega) ?_
      rw [hz.1, zwl_dead h hm' hd (Z m) (Nat.le_refl _)]
      exact h1
theorem m_ways (h : zDat M L C F Z K dd V hm) (hW : zMod g M L C F Z K dd V hm) {t : Nat} (ht : t < 15) (hf : g 17 t = nI (zpl C t)) (hp : zpl C t < 4) : ∀ d l f (u : zJ), l + d = L → d < f → zw u (zwl K dd hm (zpl C t) l) → ∃ u', f_X4_odds_L88 g (nI t) f (lN (10 ^ zal dd hm l)) (nI l) u = some (lN (10 ^ zal dd hm L), u') ∧ zw u' (zwl K dd hm (zpl C t) L)
  | 0, l, f, u, hj, hf', h1 => by
    obtain ⟨f, rfl⟩ : ∃ z, f = z + 1 := ⟨f - 1, by omega⟩
    have hL := h.l16
    have e : l = L := by omega
    subst e
    refine ⟨u, ?_, h1⟩
    rw [f_X4_odds_L88, hW.2.1, if_pos (nI_le (by omega) (by omega))]
  | d + 1, l, f, u, hj, hf', h1 => by
    obtain ⟨f, rfl⟩ : ∃ z, f = z + 1 := ⟨f - 1, by omega⟩
    have hL := h.l16
    have hl : l < L := by omega
    obtain ⟨m, j, m1, m2, m3, m4⟩ := h.home hl
    have hm4 : m < 4 := Nat.lt_of_lt_of_le m1 h.1
    obtain ⟨b1, b2, b3, b4⟩ := hW.2.2.2.1 m m1
    have hz := h.2.2.1 m m1
    rw [f_X4_odds_L88, hW.2.1, if_neg (nI_ge hl (by omega)), q_rd (show l < 16 by omega) (by decide), (hW.2.2.2.2 l hl).2, m4, q_rd hm4 (by decide), b4, nI_1]
    by_cases hd : dd m = 0
    · obtain ⟨u1, a1, a2⟩ := m_add (zlc_e hz.2.2.2.1 hp).2.2 h1
      rw [hd, if_pos (show nI 0 = 0 from rfl), q_rd hm4 (by decide), b1, q_rd ht (by decide), hf, (zlc_e hz.2.2.2.1 hp).2.1, q_b1, a1, q_b1, show (10 : Int64) = lN 10 from rfl, lN_mul, ← Nat.pow_succ]
      have r := m_ways h hW ht hf hp d (l + 1) f u1 (by omega) (by omega) (by
        show zw u1 (if dd (hm l) = 0 then zws (zwl K dd hm (zpl C t) l) (zlc (K (hm l)) (zpl C t)) else zwl K dd hm (zpl C t) l)
        rw [m4, if_pos hd]
        exact a2)
      rw [show zal dd hm (l + 1) = zal dd hm l + 1 from by
        show (if dd (hm l) = 0 then zal dd hm l + 1 else zal dd hm l) = _
        rw [m4, if_pos hd]] at r
      exact r
    · rw [show dd m = 1 from by have := hz.2.2.2.2; omega, if_neg (show ¬ nI 1 = 0 by decide)]
      have r := m_ways h hW ht hf hp d (l + 1) f u (by omega) (by omega) (by
        show zw u (if dd (hm l) = 0 then zws (zwl K dd hm (zpl C t) l) (zlc (K (hm l)) (zpl C t)) else zwl K dd hm (zpl C t) l)
        rw [m4, if_neg hd]
        exact h1)
      rw [show zal dd hm (l + 1) = zal dd hm l from by
        show (if dd (hm l) = 0 then zal dd hm l + 1 else zal dd hm l) = _
        rw [m4, if_neg hd]] at r
      exact r
end ZO
theorem x_fillL {w : zJ} : ∃ w', f_J7_fill_d0a16 17 w 0 = some w' ∧ ∀ j, j < 17 → w' j = 0 := by
  obtain ⟨a', h1, h2⟩ := zl_inv (fun k i (a : zJ) => f_J7_fill_d0a16_L6 17 0 (Int32.ofNat 17) k (nI i) a) 17 (fun i a => ∀ j, j < i → a j = 0) (fun a => a)
    (fun k a _ => by
      show f_J7_fill_d0a16_L6 17 0 (nI 17) (k + 1) (nI 17) a = some a
      rw [f_J7_fill_d0a16_L6, if_pos (by decide)])
    (fun k i a hi hI => by
      refine ⟨vp_updL a i 0, ?_, ?_⟩
      · intro j hj
        by_cases c : j = i
        · subst c; exact pk_uLs
        · rw [pk_uLn c]; exact hI j (by omega)
      · show f_J7_fill_d0a16_L6 17 0 (nI 17) (k + 1) (nI i) a = f_J7_fill_d0a16_L6 17 0 (nI 17) k (nI (i + 1)) (vp_updL a i 0)
        rw [f_J7_fill_d0a16_L6, if_neg (nI_ge hi (by omega)), q_in hi (by omega), q_lt, q_cl (by omega), nI_1])
    17 0 w 100 (by omega) (fun j hj => by omega) (by omega)
  refine ⟨a', ?_, h1⟩
  unfold f_J7_fill_d0a16
  rw [show (0 : Int32) = nI 0 from rfl, h2]
  rfl
theorem m_fillL {u : zJ} : ∃ u', f_X4_odds_L52 100 0 u = some u' ∧ zw u' (fun j => if j = 0 then 1 else 0) := by
  obtain ⟨a', h1, h2⟩ := zl_inv (fun k i (a : zJ) => f_X4_odds_L52 k (nI i) a) 17 (fun i a => ∀ j, j < i → a j = lN (if j = 0 then 1 else 0)) (fun a => a)
    (fun k a _ => by
      show f_X4_odds_L52 (k + 1) (nI 17) a = some a
      rw [f_X4_odds_L52, if_pos (by decide)])
    (fun k i a hi hI => by
      refine ⟨vp_updL a i (lN (if i = 0 then 1 else 0)), ?_, ?_⟩
      · intro j hj
        by_cases c : j = i
        · subst c; exact pk_uLs
        · rw [pk_uLn c]; exact hI j (by omega)
      · show f_X4_odds_L52 (k + 1) (nI i) a = f_X4_odds_L52 k (nI (i + 1)) _
        rw [f_X4_odds_L52, if_neg (show ¬ 17 ≤ nI i from nI_ge (b := 17) hi (by omega)), nI_1]
        by_cases c : i = 0
        · subst c
          rw [if_pos (show nI 0 = 0 from rfl), q_in hi (by omega), q_lt, q_cl (by omega)]
          rfl
        · rw [if_neg (nI_ne0 (by omega) (by omega)), q_in hi (by omega), q_lt, q_cl (by omega), if_neg c]
          rfl)
    17 0 u 100 (by omega) (fun j hj => by omega) (by omega)
  exact ⟨a', h2, h1⟩
/-- the ways of as many as asked or more -/
def zfr (W : Nat → Nat) (b : Nat) : Nat → Nat := fun j => if j < b then 0 else W j
theorem zsum_mono {f g : Nat → Nat} (h : ∀ j, f j ≤ g j) : ∀ k, zsum f k ≤ zsum g k
  | 0 => Nat.le_refl 0
  | k + 1 => Nat.add_le_add (zsum_mono h k) (h k)
theorem x_sums {w : zJ} {W : Nat → Nat} {b : Nat} (hw : zw w W) (hb : b ≤ 16) : f_X3_odds_L66 w (nI b) 100 0 0 0 = some (lN (zsum (zfr W b) 17), lN (zsum W 17)) := by
  obtain ⟨a', h1, h2⟩ := zl_inv (fun k i (a : Int64 × Int64) => f_X3_odds_L66 w (nI b) k a.1 a.2 (nI i)) 17 (fun i a => a.1 = lN (zsum (zfr W b) i) ∧ a.2 = lN (zsum W i)) (fun a => a)
    (fun k a _ => by
      show f_X3_odds_L66 w (nI b) (k + 1) a.1 a.2 (nI 17) = some (a.1, a.2)
      rw [f_X3_odds_L66, if_pos (by decide)])
    (fun k i a hi hI => by
      refine ⟨(lN (zsum (zfr W b) (i + 1)), lN (zsum W (i + 1))), ⟨rfl, rfl⟩, ?_⟩
      show f_X3_odds_L66 w (nI b) (k + 1) a.1 a.2 (nI i) = f_X3_odds_L66 w (nI b) k (lN (zsum (zfr W b) i + (if i < b then 0 else W i))) (lN (zsum W i + W i)) (nI (i + 1))
      rw [f_X3_odds_L66, if_neg (show ¬ 16 < nI i from nI_nlt (a := 16) (by omega) (by omega)), q_rd hi (by decide), q_rd hi (by decide), nI_1, hI.1, hI.2, hw i hi, lN_add (zsum W i), lN_add (zsum (zfr W b) i)]
      by_cases c : i < b
      · rw [if_pos (nI_lt c (by omega)), if_pos c]
        rfl
      · rw [if_neg (nI_nlt (by omega) (by omega)), if_neg c])
    17 0 (lN 0, lN 0) 100 (by omega) ⟨rfl, rfl⟩ (by omega)
  rw [← h1.1, ← h1.2]
  exact h2
theorem m_sums {w : zJ} {W : Nat → Nat} {b : Nat} (hw : zw w W) (hb : b ≤ 16) : f_X4_odds_L156 w 100 0 (nI b) = some (lN (zsum (zfr W b) 17)) := by
  obtain ⟨a', h1, h2⟩ := zl_inv (fun k i (a : Int64) => f_X4_odds_L156 w k a (nI i)) 17 (fun i a => b ≤ i ∧ a = lN (zsum (zfr W b) i)) (fun a => a)
    (fun k a _ => by
      show f_X4_odds_L156 w (k + 1) a (nI 17) = some a
      rw [f_X4_odds_L156, if_pos (by decide)])
    (fun k i a hi hI => by
      refine ⟨lN (zsum (zfr W b) (i + 1)), ⟨by have := hI.1; omega, rfl⟩, ?_⟩
      show f_X4_odds_L156 w (k + 1) a (nI i) = f_X4_odds_L156 w k (lN (zsum (zfr W b) i + (if i < b then 0 else W i))) (nI (i + 1))
      rw [f_X4_odds_L156, if_neg (show ¬ 17 ≤ nI i from nI_ge (b := 17) hi (by omega)), q_rd hi (by decide), nI_1, hI.2, hw i hi, lN_add, if_neg (by have := hI.1; omega)])
    (17 - b) b (lN 0) 100 (by omega) ⟨Nat.le_refl _, by
      have : zsum (zfr W b) b ≤ b * 0 := zsum_le b (fun l hl => by
        show (if l < b then 0 else W l) ≤ 0
        rw [if_pos hl]
        exact Nat.le_refl 0)
      rw [show zsum (zfr W b) b = 0 by omega]⟩ (by omega)
  rw [← h1.2]
  exact h2
theorem q_cmp0 {b : Nat} (h0 : 0 < b) (h : b < 2 ^ 63) : ¬ lg_cmp (lN b) 0 = 0 := by
  unfold lg_cmp
  rw [if_pos (show lN b > 0 from (pk_lLT (a := 0) (by omega) h).mpr h0)]
  decide
theorem q_dl {b : Nat} (h0 : 0 < b) (h : b < 2 ^ 63) {β : Type} {k : Option β} : zq_dl (lN b) k = k := by
  unfold zq_dl
  rw [if_pos]
  intro e
  have := (pk_lEQ (a := b) (b := 0) h (by omega)).mp e
  omega
/-- Euclid's steps: two of them halve -/
theorem j_gcd : ∀ k a b fx fm cnt, b < 2 ^ k → a < 2 ^ 63 → b < 2 ^ 63 → cnt + 2 * k < 1000 → 2 * k < fx → 2 * k < fm → f_X3_greatestDivisor_L3 fx (lN a) (lN b) (nI cnt) = some (lN (Nat.gcd b a)) ∧ f_X4_share_L6 fm (lN a) (lN b) = some (lN (Nat.gcd b a))
  | 0, a, b, fx, fm, cnt, h, ha, hb, hc, h1, h2 => by
    obtain ⟨fx, rfl⟩ : ∃ z, fx = z + 1 := ⟨fx - 1, by omega⟩
    obtain ⟨fm, rfl⟩ : ∃ z, fm = z + 1 := ⟨fm - 1, by omega⟩
    have e : b = 0 := by simpa using h
    subst e
    rw [f_X3_greatestDivisor_L3, f_X4_share_L6, if_neg (show ¬ 1000 ≤ nI cnt from nI_ge (b := 1000) (by omega) (by decide)), if_pos (show lg_cmp (lN 0) 0 = 0 by decide), if_pos (show lg_cmp (lN 0) 0 = 0 by decide), Nat.gcd_zero_left]
    exact ⟨rfl, rfl⟩
  | k + 1, a, b, fx, fm, cnt, h, ha, hb, hc, h1, h2 => by
    obtain ⟨fx, rfl⟩ : ∃ z, fx = z + 2 := ⟨fx - 2, by omega⟩
    obtain ⟨fm, rfl⟩ : ∃ z, fm = z + 2 := ⟨fm - 2, by omega⟩
    rw [f_X3_greatestDivisor_L3, f_X4_share_L6, if_neg (show ¬ 1000 ≤ nI cnt from nI_ge (b := 1000) (by omega) (by decide))]
    by_cases b0 : b = 0
    · subst b0
      rw [if_pos (show lg_cmp (lN 0) 0 = 0 by decide), if_pos (show lg_cmp (lN 0) 0 = 0 by decide), Nat.gcd_zero_left]
      exact ⟨rfl, rfl⟩
    have bp : 0 < b := by omega
    rw [if_neg (q_cmp0 bp hb), if_neg (q_cmp0 bp hb), q_dl bp hb, q_dl bp hb, pk_lRem ha bp hb, nI_1, f_X3_greatestDivisor_L3, f_X4_share_L6, if_neg (show ¬ 1000 ≤ nI (cnt + 1) from nI_ge (b := 1000) (by omega) (by decide)), Nat.gcd_rec b a]
    have hr := Nat.mod_lt a bp
    by_cases r0 : a % b = 0
    · rw [r0, if_pos (show lg_cmp (lN 0) 0 = 0 by decide), if_pos (show lg_cmp (lN 0) 0 = 0 by decide), Nat.gcd_zero_left]
      exact ⟨rfl, rfl⟩
    have rp : 0 < a % b := by omega
    have rb : a % b < 2 ^ 63 := by omega
    rw [if_neg (q_cmp0 rp rb), if_neg (q_cmp0 rp rb), q_dl rp rb, q_dl rp rb, pk_lRem hb rp rb, nI_1, Nat.gcd_rec (a % b) b]
    have hlt : b % (a % b) < 2 ^ k := by
      have hm := Nat.mod_lt b rp
      have hdv := Nat.div_add_mod b (a % b)
      have hq : 1 ≤ b / (a % b) := (Nat.one_le_div_iff rp).mpr (by omega)
      have hmul : (a % b) * 1 ≤ (a % b) * (b / (a % b)) := Nat.mul_le_mul_left _ hq
      rw [Nat.pow_succ] at h
      omega
    have hm63 : b % (a % b) < 2 ^ 63 := by
      have hm := Nat.mod_lt b rp
      omega
    exact j_gcd k (a % b) (b % (a % b)) fx fm (cnt + 1 + 1) hlt rb hm63 (by omega) (by omega) (by omega)
theorem p_odds {o : zS} {s : zS4} {n : zS} {t : zS} {r : zS} {w : zJ} {g : zS} {u : zJ} (h : zRel o s n t r g) (x1 x2 x3 : Int32) : ∃ (r0 : Int64) (w' : zJ) (g' : zS) (u' : zJ), f_X3_odds n w x1 x2 x3 = some (r0, w') ∧ f_X4_odds g u x1 x2 x3 = some (r0, g', u') ∧ zRel o s n t r g' := by
  obtain ⟨e1, e2, e3, e4, e5, M, L, C, F, Z, K, dd, V, hm, q, ru, rl, rz, hD, hW, hM, hR⟩ := id h
  have hL := hD.l16
  have hM4 := hD.1
  have h0 : (0 : Int64).toInt = 0 := by decide
  have h16 : (16 : Int64).toInt = 16 := by decide
  have h1 : (1 : Int64).toInt = 1 := by decide
  unfold f_X3_odds f_X4_odds f_X4_lost
  rcases k_unit x1 with ⟨p, hp, rfl, hx, hm2⟩ | ⟨hx, hm2⟩
  rotate_left
  · rw [hx, hm2, q_b1, q_b1, if_pos i00, if_pos i00]
    exact ⟨_, _, _, _, rfl, rfl, h⟩
  rw [hx, hm2, q_b1, q_b1, if_neg i10, if_neg i10]
  rcases q_rng x2 0 16 (by decide) with ⟨b, -, hb, rfl⟩ | hj
  rotate_left
  · rw [q_inF (by rw [h0, h16]; omega), q_b1, if_pos i00]
    by_cases c : x2 < 0
    · rw [if_pos c]
      exact ⟨_, _, _, _, rfl, rfl, h⟩
    · rw [if_neg c, if_pos (by rw [q_r x2 16 (by decide)]; rw [q_l x2 0 (by decide)] at c; omega)]
      exact ⟨_, _, _, _, rfl, rfl, h⟩
  rw [if_neg (nI_pos (by omega)), if_neg (show ¬ 16 < nI b from nI_nlt (a := 16) hb (by decide)), q_inT (by rw [h0, h16, q_ti (by omega)]; omega), q_b1, if_neg i10]
  rcases q_rng x3 0 1 (by decide) with ⟨d, -, hd, rfl⟩ | hj
  rotate_left
  · rw [q_inF (by rw [h0, h1]; omega), q_b1, if_pos i00]
    by_cases c : x3 < 0
    · rw [if_pos c]
      exact ⟨_, _, _, _, rfl, rfl, h⟩
    · rw [if_neg c, if_neg (by rw [q_le x3 1 (by decide)]; rw [q_l x3 0 (by decide)] at c; omega)]
      exact ⟨_, _, _, _, rfl, rfl, h⟩
  rw [if_neg (nI_pos (by omega)), if_pos (show nI d ≤ 1 from nI_le (b := 1) hd (by decide)), q_inT (by rw [h0, h1, q_ti (by omega)]; omega), q_b1, if_neg i10]
  rcases k_stands hD.1 hW.1 hM.1 with ⟨hp0, hs1, hs2⟩ | ⟨hp0, hs1, hs2⟩
  rotate_left
  · rw [hs1, q_b1, if_pos i00, if_pos hs2]
    exact ⟨_, _, _, _, rfl, rfl, h⟩
  have hC := hD.2.2.2.2.2.2.2 hp0
  have hpl := zpl_lt hC.2 hp
  obtain ⟨g', a1, a2, a3⟩ := m_frame hC hM.2.2.1
  have hM' : zMod g' M L C F Z K dd V hm := zMod_g hM (fun c hc => a3 c (by omega) (by omega))
  have hz' : zRel o s n t r g' := zRel_g h (fun k hk => a3 k (by omega) (by omega))
  -- the ways
  obtain ⟨w1, b1, b2⟩ := x_fillL (w := w)
  obtain ⟨w2, c1, c2⟩ := x_ways hD hW hpl M 0 100 (vp_updL w1 0 1) (by omega) (by omega) (by
    rw [hD.2.1]
    intro j hj
    show vp_updL w1 0 1 j = lN (if j = 0 then 1 else 0)
    by_cases e : j = 0
    · subst e
      rw [pk_uLs]
      rfl
    · rw [pk_uLn e, b2 j hj, if_neg e]
      rfl)
  have c1 : f_X3_countWays_L17 n (nI (zpl C p)) 100 0 (vp_updL w1 0 1) = some w2 := c1
  have cw : f_X3_countWays n w (nI (zpl C p)) = some w2 := by
    unfold f_X3_countWays
    rw [b1, q_b1, show (0 : Int32) = nI 0 from rfl, q_in (show 0 < 17 by omega) (by decide), q_lt, q_cl (by omega)]
    show zq_b1 (f_X3_countWays_L17 n (nI (zpl C p)) 100 0 (vp_updL w1 0 1)) _ = _
    rw [c1]
    rfl
  obtain ⟨u1, d1, d2⟩ := m_fillL (u := u)
  obtain ⟨u2, f1, f2⟩ := m_ways hD hM' hp (a2 p hp).1 hpl L 0 100 u1 (by omega) (by omega) d2
  have f1 : f_X4_odds_L88 g' (nI p) 100 1 0 u1 = some (lN (10 ^ zal dd hm L), u2) := f1
  obtain ⟨s1, -⟩ := zwl_sum (K := K) (dd := dd) (p := zpl C p) (hm := hm) (L := L) (fun l hl => by
    obtain ⟨m, j, m1, m2, m3, m4⟩ := hD.home hl
    rw [m4]
    exact (zlc_e (hD.2.2.1 m m1).2.2.2.1 hpl).2.2) hL L (Nat.le_refl _)
  have hal := zal_le dd hm L
  have hB : 10 ^ zal dd hm L ≤ 10 ^ 16 := Nat.pow_le_pow_right (by decide) (by omega)
  have hB0 : 0 < 10 ^ zal dd hm L := Nat.pow_pos (by decide)
  have hA : zsum (zfr (zwl K dd hm (zpl C p) L) b) 17 ≤ 10 ^ 16 := by
    have := zsum_mono (f := zfr (zwl K dd hm (zpl C p) L) b) (g := zwl K dd hm (zpl C p) L) (fun j => by
      show (if j < b then 0 else zwl K dd hm (zpl C p) L j) ≤ _
      split <;> omega) 17
    omega
  have hx2 := x_sums c2 hb
  have hm3 := m_sums f2 hb
  rw [s1] at hx2
  generalize hAe : zsum (zfr (zwl K dd hm (zpl C p) L) b) 17 = A at hx2 hm3 hA
  generalize hBe : 10 ^ zal dd hm L = B at hx2 f1 hB hB0
  have e16 : (10 : Nat) ^ 16 < 2 ^ 54 := by decide
  have e54 : (2 : Nat) ^ 54 < 2 ^ 63 := by decide
  obtain ⟨G1, G2⟩ := j_gcd 54 A B 1100 1100 0 (by omega) (by omega) (by omega) (by omega) (by omega) (by omega)
  have G1 : f_X3_greatestDivisor_L3 1100 (lN A) (lN B) 0 = some (lN (Nat.gcd B A)) := G1
  have gp : 0 < Nat.gcd B A := Nat.gcd_pos_of_pos_left _ hB0
  have gl : Nat.gcd B A ≤ B := Nat.le_of_dvd hB0 (Nat.gcd_dvd_left B A)
  unfold f_X3_greatestDivisor f_X4_share
  rw [hs1, q_b1, if_neg i10, if_neg hs2, q_rd hp (by decide), (hW.2.2.2.2.2 hp0 p hp).1, cw, q_b1, hx2, q_b2, G1, q_b1, q_b1, if_neg (q_cmp0 gp (by omega)), a1, q_b1, d1, q_b1, f1, q_b2, hm3, q_b1, G2, q_b1, q_dl gp (by omega), q_dl gp (by omega), q_dl gp (by omega), q_dl gp (by omega)]
  rcases (show d = 0 ∨ d = 1 by omega) with rfl | rfl
  · rw [if_pos (show nI 0 = 0 from rfl), if_pos (show nI 0 = 0 from rfl)]
    exact ⟨_, _, _, _, rfl, rfl, hz'⟩
  · rw [if_neg (show ¬ nI 1 = 0 by decide), if_neg (show ¬ nI 1 = 0 by decide)]
    exact ⟨_, _, _, _, rfl, rfl, hz'⟩
