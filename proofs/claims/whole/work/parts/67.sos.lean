section ZA
variable {n g r : zS} {M L C : Nat} {F Z K dd V hm : Nat → Nat} {q : Nat} {ru rl rz : Nat → Nat}
def zha (P : Nat → Bool) : Nat → Nat → Bool
  | _, 0 => true
  | i, d + 1 => P i && zha P (i + 1) d
def zhp (C : Nat) (K dd V hm ru rl rz : Nat → Nat) (i : Nat) : Bool := zbt (zlt K dd V hm (rl i)) (zpl C (ru i)) == rz i
def zbo (b : Bool) : Int32 := if b = true then 1 else 0
theorem zRd_g {g' : zS} (h : zRd r g L q ru rl rz) (e : ∀ c, 21 ≤ c → c ≤ 24 → g' c = g c) : zRd r g' L q ru rl rz := by
  have e1 := e 21 (by omega) (by omega)
  have e2 := e 22 (by omega) (by omega)
  have e3 := e 23 (by omega) (by omega)
  have e4 := e 24 (by omega) (by omega)
  simpa only [zRd, e1, e2, e3, e4] using h
theorem zhp_t {i : Nat} (c : zbt (zlt K dd V hm (rl i)) (zpl C (ru i)) = rz i) : zhp C K dd V hm ru rl rz i = true := by
  unfold zhp
  rw [c]
  exact beq_self_eq_true _
theorem zhp_f {i : Nat} (c : ¬ zbt (zlt K dd V hm (rl i)) (zpl C (ru i)) = rz i) : zhp C K dd V hm ru rl rz i = false := by
  unfold zhp
  exact beq_false_of_ne c
theorem x_hold (h : zDat M L C F Z K dd V hm) (hW : zWal n M L C F Z K dd V hm) (hr : zRd r g L q ru rl rz) : f_X0_holdFor r n = some (zbo (zha (zhp C K dd V hm ru rl rz) 0 q)) := by
  have hL := h.l16
  have hq := hr.1
  have key : ∀ d i k, i + d = q → d < k → f_X0_holdFor_L2 r n k (nI i) = some (if zha (zhp C K dd V hm ru rl rz) i d = true then Sum.inl () else Sum.inr ()) := by
    intro d
    induction d with
    | zero =>
      intro i k hi hk
      obtain ⟨k, rfl⟩ : ∃ z, k = z + 1 := ⟨k - 1, by omega⟩
      rw [f_X0_holdFor_L2, hr.2.1, if_pos (nI_le (by omega) (by omega))]
      rfl
    | succ d ih =>
      intro i k hi hk
      obtain ⟨k, rfl⟩ : ∃ z, k = z + 1 := ⟨k - 1, by omega⟩
      obtain ⟨⟨r1, r2, r3⟩, -, r4, r5, r6⟩ := hr.2.2.2 i (by omega)
      have hb := @zbt_le (zlt K dd V hm (rl i)) (zpl C (ru i))
      have hi8 : i < 8 := by omega
      rw [f_X0_holdFor_L2, hr.2.1, if_neg (nI_ge (by omega) (by omega)), q_rd hi8 (by decide), r2, q_rd hi8 (by decide), r1, x_isLit h hW r5 r4 (h.pos r5), q_b1, q_rd hi8 (by decide), r3, nI_1]
      show _ = some (if (zhp C K dd V hm ru rl rz i && zha (zhp C K dd V hm ru rl rz) (i + 1) d) = true then Sum.inl () else Sum.inr ())
      by_cases c : zbt (zlt K dd V hm (rl i)) (zpl C (ru i)) = rz i
      · rw [if_pos (by rw [c]), ih (i + 1) k (by omega) (by omega), zhp_t c, Bool.true_and]
      · rw [if_neg (by rw [nI_eq (by omega) (by omega)]; exact c), zhp_f c, Bool.false_and]
        rfl
  unfold f_X0_holdFor
  rw [show (f_X0_holdFor_L2 r n 100 0) = f_X0_holdFor_L2 r n 100 (nI 0) from rfl, key q 0 100 (by omega) (by omega)]
  unfold zbo
  by_cases c : zha (zhp C K dd V hm ru rl rz) 0 q = true
  · rw [if_pos c, if_pos c]; rfl
  · rw [if_neg c, if_neg c]; rfl
theorem m_areSo (h : zDat M L C F Z K dd V hm) (hW : zMod g M L C F Z K dd V hm) (hp : 0 < M) (hr : zRd r g L q ru rl rz) : ∃ g', f_X4_areSo g = some (zbo (zha (zhp C K dd V hm ru rl rz) 0 q), g') ∧ (∀ c, c ≠ 17 → c ≠ 18 → g' c = g c) := by
  have hL := h.l16
  have hq := hr.1
  have hC := h.2.2.2.2.2.2.2 hp
  obtain ⟨g', a1, a2, a3⟩ := m_frame hC hW.2.2.1
  have hM' : zMod g' M L C F Z K dd V hm := zMod_g hW (fun c hc => a3 c (by omega) (by omega))
  have hr' : zRd r g' L q ru rl rz := zRd_g hr (fun c c1 c2 => a3 c (by omega) (by omega))
  refine ⟨g', ?_, a3⟩
  have key : ∀ d i k (b : Bool), i + d = q → d < k → f_X4_areSo_L8 g' k (zbo b) (nI i) = some (zbo (b && zha (zhp C K dd V hm ru rl rz) i d)) := by
    intro d
    induction d with
    | zero =>
      intro i k b hi hk
      obtain ⟨k, rfl⟩ : ∃ z, k = z + 1 := ⟨k - 1, by omega⟩
      rw [f_X4_areSo_L8, hr'.2.2.1, if_pos (nI_le (by omega) (by omega))]
      cases b <;> rfl
    | succ d ih =>
      intro i k b hi hk
      obtain ⟨k, rfl⟩ : ∃ z, k = z + 1 := ⟨k - 1, by omega⟩
      obtain ⟨-, ⟨r1, r2, r3⟩, r4, r5, r6⟩ := hr'.2.2.2 i (by omega)
      have hz := zlt_le h r5
      have hp4 := zpl_lt hC.2 r4
      have hb := @zbt_le (zlt K dd V hm (rl i)) (zpl C (ru i))
      have hi8 : i < 8 := by omega
      rw [f_X4_areSo_L8, hr'.2.2.1, if_neg (nI_ge (by omega) (by omega)), nI_1]
      cases b with
      | false =>
        rw [if_pos (show zbo false = 0 from rfl)]
        exact ih (i + 1) k false (by omega) (by omega)
      | true =>
        rw [if_neg (show ¬ zbo true = 0 by decide), q_rd hi8 (by decide), r2, m_light h hM' r5, q_b1, q_rd hi8 (by decide), r1, q_rd r4 (by decide), (a2 _ r4).1, q_rd hi8 (by decide), r3, (q_bit (by omega) hp4).2]
        show _ = some (zbo (true && (zhp C K dd V hm ru rl rz i && zha (zhp C K dd V hm ru rl rz) (i + 1) d)))
        by_cases c : zbt (zlt K dd V hm (rl i)) (zpl C (ru i)) = rz i
        · rw [if_pos (by rw [c]), zhp_t c, Bool.true_and]
          exact ih (i + 1) k true (by omega) (by omega)
        · rw [if_neg (by rw [nI_eq (by omega) (by omega)]; exact c), zhp_f c, Bool.false_and]
          exact ih (i + 1) k false (by omega) (by omega)
  unfold f_X4_areSo
  rw [a1, q_b1, show (f_X4_areSo_L8 g' 100 1 0) = f_X4_areSo_L8 g' 100 (zbo true) (nI 0) from rfl, key q 0 100 true (by omega) (by omega), q_b1, Bool.true_and]
  cases zha (zhp C K dd V hm ru rl rz) 0 q <;> rfl
/-- bits of those that hold -/
def zbm (o : Nat) (H : Nat → Bool) : Nat → Int32
  | 0 => 0
  | k + 1 => if H (k + o) = true then zbm o H k ||| (1 <<< (nI (k + o) &&& 31)) else zbm o H k
theorem zbm_x {o : Nat} {H : Nat → Bool} {k : Nat} {β : Type} {L : Int32 → β} : (if zbo (H (k + o)) = 0 then L (zbm o H k) else L (zbm o H k ||| (1 <<< (nI (k + o) &&& 31)))) = L (zbm o H (k + 1)) := by
  show _ = L (if H (k + o) = true then zbm o H k ||| (1 <<< (nI (k + o) &&& 31)) else zbm o H k)
  cases H (k + o)
  · rfl
  · rfl
theorem zbm_m {o : Nat} {H : Nat → Bool} {k : Nat} {β : Type} {L : Int32 → β} : (if zbo (H (k + o)) = 0 then L (zbm o H k ||| 0) else L (zbm o H k ||| (1 <<< (nI (k + o) &&& 31)))) = L (zbm o H (k + 1)) := by
  rw [Int32.or_zero]
  exact zbm_x
theorem va_up_up {V V' : Nat → Nat} {l v : Nat} (h : ∀ j, j ≠ l → V' j = V j) : va_up V' l v = va_up V l v := by
  funext j
  by_cases c : j = l
  · subst c
    rw [q_up, q_up]
  · rw [q_upn c, q_upn c, h j c]
end ZA
theorem p_kinds {o : zS} {s : zS4} {n : zS} {t : zS} {r : zS} {g : zS} (h : zRel o s n t r g) (x1 : Int32) : ∃ (r0 : Int32) (t' : zS) (g' : zS), f_X3_kinds n t r x1 = some (r0, t') ∧ f_X4_kinds g x1 = some (r0, g') ∧ zRel o s n t' r g' := by
  obtain ⟨e1, e2, e3, e4, e5, M, L, C, F, Z, K, dd, V, hm, q, ru, rl, rz, hD, hW, hM, hR⟩ := id h
  have hL := hD.l16
  unfold f_X3_kinds f_X4_kinds
  rcases k_mod hD.1 hW.1 hM.1 x1 with ⟨m, hm', rfl, hx, hm2⟩ | ⟨hx, hm2⟩
  rotate_left
  · rw [hx, hm2, q_b1, q_b1, if_pos i00, if_neg i10]
    exact ⟨_, _, _, rfl, rfl, h⟩
  have hp : 0 < M := by omega
  have hm4 : m < 4 := Nat.lt_of_lt_of_le hm' hD.1
  have hDK : ∀ v, v ≤ 2 → zDat M L C F Z (va_up K m v) dd V hm := fun v hv => zDat_K hD (va_up_le (fun j hj => (hD.2.2.1 j hj).2.2.2.1) hv)
  obtain ⟨t1, u1, u2, u3⟩ := x_likeW (n := t) hD hW e3
  rw [hx, hm2, q_b1, q_b1, if_neg i10, if_pos i00, u1, q_b1, q_rd hm4 (by decide)]
  obtain ⟨a, b1, b2⟩ := zl_inv (fun k i (a : Int32 × zS) => f_X3_kinds_L28 r (nI m) k a.1 (nI i) a.2) 3 (fun i a => a.1 = zbm 0 (fun v => zha (zhp C (va_up K m v) dd V hm ru rl rz) 0 q) i ∧ zB4 a.2 ∧ ∃ K', (∀ j, j ≠ m → K' j = K j) ∧ zWal a.2 M L C F Z K' dd V hm) (fun a => a)
    (fun k a _ => by
      show f_X3_kinds_L28 r (nI m) (k + 1) a.1 (nI 3) a.2 = some (a.1, a.2)
      rw [f_X3_kinds_L28, if_pos (by decide)])
    (fun k i a hi hI => by
      obtain ⟨w, a⟩ := a
      obtain ⟨hI1, hI2, K', hI3, hI4⟩ := hI
      have hI1 : w = zbm 0 (fun v => zha (zhp C (va_up K m v) dd V hm ru rl rz) 0 q) i := hI1
      have hI2 : zB4 a := hI2
      have hI4 : zWal a M L C F Z K' dd V hm := hI4
      have hw := zWal_K hI4 m i
      rw [va_up_up hI3] at hw
      refine ⟨(zbm 0 (fun v => zha (zhp C (va_up K m v) dd V hm ru rl rz) 0 q) (i + 1), va_up a 0 (upd (a 0) m (nI i))), ⟨rfl, zB4_e hI2 rfl, va_up K m i, fun j hj => q_upn hj, hw⟩, ?_⟩
      show f_X3_kinds_L28 r (nI m) (k + 1) w (nI i) a = f_X3_kinds_L28 r (nI m) k _ (nI (i + 1)) _
      rw [f_X3_kinds_L28, if_neg (show ¬ 3 ≤ nI i from nI_ge (b := 3) hi (by decide)), q_in hm4 (by decide), q_lt, q_cl (by omega), x_hold (hDK i (by omega)) hw hR, q_b1, nI_1, hI1]
      exact zbm_x (o := 0) (H := fun v => zha (zhp C (va_up K m v) dd V hm ru rl rz) 0 q) (k := i) (L := fun z => f_X3_kinds_L28 r (nI m) k z (nI (i + 1)) (va_up a 0 (upd (a 0) m (nI i)))))
    3 0 (0, t1) 100 (by omega) ⟨rfl, u3, K, fun _ _ => rfl, u2⟩ (by omega)
  have b2 : f_X3_kinds_L28 r (nI m) 100 0 0 t1 = some (a.1, a.2) := b2
  obtain ⟨c, d1, d2⟩ := zl_inv (fun k i (a : Int32 × zS) => f_X4_kinds_L22 (nI m) k a.1 (nI i) a.2) 3 (fun i a => a.1 = zbm 0 (fun v => zha (zhp C (va_up K m v) dd V hm ru rl rz) 0 q) i ∧ (∀ c, c ≠ 4 → c ≠ 17 → c ≠ 18 → a.2 c = g c) ∧ (∀ j, j ≠ m → a.2 4 j = g 4 j) ∧ ∃ K', (∀ j, j ≠ m → K' j = K j) ∧ zMod a.2 M L C F Z K' dd V hm) (fun a => a)
    (fun k a _ => by
      show f_X4_kinds_L22 (nI m) (k + 1) a.1 (nI 3) a.2 = some (a.1, a.2)
      rw [f_X4_kinds_L22, if_pos (by decide)])
    (fun k i a hi hI => by
      obtain ⟨w, a⟩ := a
      obtain ⟨hI1, hI2, hI5, K', hI3, hI4⟩ := hI
      have hI1 : w = zbm 0 (fun v => zha (zhp C (va_up K m v) dd V hm ru rl rz) 0 q) i := hI1
      have hI2 : ∀ c, c ≠ 4 → c ≠ 17 → c ≠ 18 → a c = g c := hI2
      have hI5 : ∀ j, j ≠ m → a 4 j = g 4 j := hI5
      have hI4 : zMod a M L C F Z K' dd V hm := hI4
      have hw := zMod_K hI4 m i
      rw [va_up_up hI3] at hw
      have hr2 : zRd r (va_up a 4 (upd (a 4) m (nI i))) L q ru rl rz := zRd_g hR (fun c c1 c2 => by rw [q_upn (by omega)]; exact hI2 c (by omega) (by omega) (by omega))
      obtain ⟨g', f1, f2⟩ := m_areSo (hDK i (by omega)) hw hp hr2
      refine ⟨(zbm 0 (fun v => zha (zhp C (va_up K m v) dd V hm ru rl rz) 0 q) (i + 1), g'), ⟨rfl, ?_, ?_, va_up K m i, fun j hj => q_upn hj, ?_⟩, ?_⟩
      · intro c c1 c2 c3
        show g' c = g c
        rw [f2 c c2 c3, q_upn c1, hI2 c c1 c2 c3]
      · intro j hj
        show g' 4 j = g 4 j
        rw [f2 4 (by decide) (by decide), q_up, q_updn hj, hI5 j hj]
      · exact zMod_g hw (fun c hc => f2 c (by omega) (by omega))
      · show f_X4_kinds_L22 (nI m) (k + 1) w (nI i) a = f_X4_kinds_L22 (nI m) k _ (nI (i + 1)) g'
        rw [f_X4_kinds_L22, if_neg (show ¬ 3 ≤ nI i from nI_ge (b := 3) hi (by decide)), q_in hm4 (by decide), q_lt, q_cl (by omega), f1, q_b2, nI_1, hI1]
        exact zbm_m (o := 0) (H := fun v => zha (zhp C (va_up K m v) dd V hm ru rl rz) 0 q) (k := i) (L := fun z => f_X4_kinds_L22 (nI m) k z (nI (i + 1)) g'))
    3 0 (0, g) 100 (by omega) ⟨rfl, fun _ _ _ _ => rfl, fun _ _ => rfl, K, fun _ _ => rfl, hM⟩ (by omega)
  have d2 : f_X4_kinds_L22 (nI m) 100 0 0 g = some (c.1, c.2) := d2
  rw [b2, d2, q_b2, q_b2, q_in hm4 (by decide), q_lt, b1.1, d1.1, q_cl (by omega)]
  refine ⟨_, _, _, rfl, rfl, zRel_t (zRel_g h (fun k hk => ?_)) b1.2.1⟩
  by_cases k4 : k = 4
  · subst k4
    rw [q_up]
    funext j
    by_cases cj : j = m
    · subst cj
      rw [q_upd]
    · rw [q_updn cj, d1.2.2.1 j cj]
  · rw [q_upn k4, d1.2.1 k k4 (by omega) (by omega)]
theorem p_levels {o : zS} {s : zS4} {n : zS} {t : zS} {r : zS} {g : zS} (h : zRel o s n t r g) (x1 : Int32) : ∃ (r0 : Int32) (t' : zS) (g' : zS), f_X3_levels n t r x1 = some (r0, t') ∧ f_X4_levels g x1 = some (r0, g') ∧ zRel o s n t' r g' := by
  obtain ⟨e1, e2, e3, e4, e5, M, L, C, F, Z, K, dd, V, hm, q, ru, rl, rz, hD, hW, hM, hR⟩ := id h
  have hL := hD.l16
  unfold f_X3_levels f_X4_levels
  rcases k_lamp hL hW.2.1 hM.2.1 x1 with ⟨m, hm', rfl, hx, hm2⟩ | ⟨hx, hm2⟩
  rotate_left
  · rw [hx, hm2, q_b1, q_b1, if_pos i00, if_neg i10]
    exact ⟨_, _, _, rfl, rfl, h⟩
  have hp : 0 < M := hD.pos hm'
  have hm4 : m < 16 := by omega
  have hDK : ∀ v, v ≤ 9 → zDat M L C F Z K dd (va_up V m v) hm := fun v hv => zDat_V hD (va_up_le hD.2.2.2.2.2.1 hv)
  obtain ⟨t1, u1, u2, u3⟩ := x_likeW (n := t) hD hW e3
  rw [hx, hm2, q_b1, q_b1, if_neg i10, if_pos i00, u1, q_b1, q_rd hm4 (by decide)]
  obtain ⟨a, b1, b2⟩ := zl_inv (fun k i (a : Int32 × zS) => f_X3_levels_L28 r (nI m) k a.1 (nI i) a.2) 10 (fun i a => a.1 = zbm 0 (fun v => zha (zhp C K dd (va_up V m v) hm ru rl rz) 0 q) i ∧ zB4 a.2 ∧ ∃ K', (∀ j, j ≠ m → K' j = V j) ∧ zWal a.2 M L C F Z K dd K' hm) (fun a => a)
    (fun k a _ => by
      show f_X3_levels_L28 r (nI m) (k + 1) a.1 (nI 10) a.2 = some (a.1, a.2)
      rw [f_X3_levels_L28, if_pos (by decide)])
    (fun k i a hi hI => by
      obtain ⟨w, a⟩ := a
      obtain ⟨hI1, hI2, K', hI3, hI4⟩ := hI
      have hI1 : w = zbm 0 (fun v => zha (zhp C K dd (va_up V m v) hm ru rl rz) 0 q) i := hI1
      have hI2 : zB4 a := hI2
      have hI4 : zWal a M L C F Z K dd K' hm := hI4
      have hw := zWal_V hI4 m i
      rw [va_up_up hI3] at hw
      refine ⟨(zbm 0 (fun v => zha (zhp C K dd (va_up V m v) hm ru rl rz) 0 q) (i + 1), va_up a 4 (upd (a 4) m (nI i))), ⟨rfl, zB4_e hI2 rfl, va_up V m i, fun j hj => q_upn hj, hw⟩, ?_⟩
      show f_X3_levels_L28 r (nI m) (k + 1) w (nI i) a = f_X3_levels_L28 r (nI m) k _ (nI (i + 1)) _
      rw [f_X3_levels_L28, if_neg (show ¬ 9 < nI i from nI_nlt (a := 9) (by omega) (by decide)), q_in hm4 (by decide), q_lt, q_cl (by omega), x_hold (hDK i (by omega)) hw hR, q_b1, nI_1, hI1]
      exact zbm_x (o := 0) (H := fun v => zha (zhp C K dd (va_up V m v) hm ru rl rz) 0 q) (k := i) (L := fun z => f_X3_levels_L28 r (nI m) k z (nI (i + 1)) (va_up a 4 (upd (a 4) m (nI i)))))
    10 0 (0, t1) 100 (by omega) ⟨rfl, u3, V, fun _ _ => rfl, u2⟩ (by omega)
  have b2 : f_X3_levels_L28 r (nI m) 100 0 0 t1 = some (a.1, a.2) := b2
  obtain ⟨c, d1, d2⟩ := zl_inv (fun k i (a : Int32 × zS) => f_X4_levels_L22 (nI m) k a.1 (nI i) a.2) 10 (fun i a => a.1 = zbm 0 (fun v => zha (zhp C K dd (va_up V m v) hm ru rl rz) 0 q) i ∧ (∀ c, c ≠ 8 → c ≠ 17 → c ≠ 18 → a.2 c = g c) ∧ (∀ j, j ≠ m → a.2 8 j = g 8 j) ∧ ∃ K', (∀ j, j ≠ m → K' j = V j) ∧ zMod a.2 M L C F Z K dd K' hm) (fun a => a)
    (fun k a _ => by
      show f_X4_levels_L22 (nI m) (k + 1) a.1 (nI 10) a.2 = some (a.1, a.2)
      rw [f_X4_levels_L22, if_pos (by decide)])
    (fun k i a hi hI => by
      obtain ⟨w, a⟩ := a
      obtain ⟨hI1, hI2, hI5, K', hI3, hI4⟩ := hI
      have hI1 : w = zbm 0 (fun v => zha (zhp C K dd (va_up V m v) hm ru rl rz) 0 q) i := hI1
      have hI2 : ∀ c, c ≠ 8 → c ≠ 17 → c ≠ 18 → a c = g c := hI2
      have hI5 : ∀ j, j ≠ m → a 8 j = g 8 j := hI5
      have hI4 : zMod a M L C F Z K dd K' hm := hI4
      have hw := zMod_V hI4 m i
      rw [va_up_up hI3] at hw
      have hr2 : zRd r (va_up a 8 (upd (a 8) m (nI i))) L q ru rl rz := zRd_g hR (fun c c1 c2 => by rw [q_upn (by omega)]; exact hI2 c (by omega) (by omega) (by omega))
      obtain ⟨g', f1, f2⟩ := m_areSo (hDK i (by omega)) hw hp hr2
      refine ⟨(zbm 0 (fun v => zha (zhp C K dd (va_up V m v) hm ru rl rz) 0 q) (i + 1), g'), ⟨rfl, ?_, ?_, va_up V m i, fun j hj => q_upn hj, ?_⟩, ?_⟩
      · intro c c1 c2 c3
        show g' c = g c
        rw [f2 c c2 c3, q_upn c1, hI2 c c1 c2 c3]
      · intro j hj
        show g' 8 j = g 8 j
        rw [f2 8 (by decide) (by decide), q_up, q_updn hj, hI5 j hj]
      · exact zMod_g hw (fun c hc => f2 c (by omega) (by omega))
      · show f_X4_levels_L22 (nI m) (k + 1) w (nI i) a = f_X4_levels_L22 (nI m) k _ (nI (i + 1)) g'
        rw [f_X4_levels_L22, if_neg (show ¬ 9 < nI i from nI_nlt (a := 9) (by omega) (by decide)), q_in hm4 (by decide), q_lt, q_cl (by omega), f1, q_b2, nI_1, hI1]
        exact zbm_m (o := 0) (H := fun v => zha (zhp C K dd (va_up V m v) hm ru rl rz) 0 q) (k := i) (L := fun z => f_X4_levels_L22 (nI m) k z (nI (i + 1)) g'))
    10 0 (0, g) 100 (by omega) ⟨rfl, fun _ _ _ _ => rfl, fun _ _ => rfl, V, fun _ _ => rfl, hM⟩ (by omega)
  have d2 : f_X4_levels_L22 (nI m) 100 0 0 g = some (c.1, c.2) := d2
  rw [b2, d2, q_b2, q_b2, q_in hm4 (by decide), q_lt, b1.1, d1.1, q_cl (by omega)]
  refine ⟨_, _, _, rfl, rfl, zRel_t (zRel_g h (fun k hk => ?_)) b1.2.1⟩
  by_cases k4 : k = 8
  · subst k4
    rw [q_up]
    funext j
    by_cases cj : j = m
    · subst cj
      rw [q_upd]
    · rw [q_updn cj, d1.2.2.1 j cj]
  · rw [q_upn k4, d1.2.1 k k4 (by omega) (by omega)]
theorem p_cuts {o : zS} {s : zS4} {n : zS} {t : zS} {r : zS} {g : zS} (h : zRel o s n t r g) : ∃ (r0 : Int32) (t' : zS) (g' : zS), f_X3_cuts n t r = some (r0, t') ∧ f_X4_cuts g = some (r0, g') ∧ zRel o s n t' r g' := by
  obtain ⟨e1, e2, e3, e4, e5, M, L, C, F, Z, K, dd, V, hm, q, ru, rl, rz, hD, hW, hM, hR⟩ := id h
  have hL := hD.l16
  unfold f_X3_cuts f_X4_cuts
  rcases k_stands hD.1 hW.1 hM.1 with ⟨hp, hs1, hs2⟩ | ⟨hp, hs1, hs2⟩
  rotate_left
  · rw [hs1, q_b1, if_pos i00, if_pos hs2]
    exact ⟨_, _, _, rfl, rfl, h⟩
  obtain ⟨t1, u1, u2, u3⟩ := x_likeW (n := t) hD hW e3
  rw [hs1, q_b1, if_neg i10, if_neg hs2, u1, q_b1]
  obtain ⟨a, b1, b2⟩ := zl_inv (fun k i (a : Int32 × zS) => f_X3_cuts_L28 r k a.1 (nI (i + 1)) a.2) 8 (fun i a => a.1 = zbm 1 (fun v => zha (zhp v K dd V hm ru rl rz) 0 q) i ∧ zB4 a.2 ∧ ∃ C', zWal a.2 M L C' F Z K dd V hm) (fun a => a)
    (fun k a _ => by
      show f_X3_cuts_L28 r (k + 1) a.1 (nI 9) a.2 = some (a.1, a.2)
      rw [f_X3_cuts_L28, if_pos (by decide)])
    (fun k i a hi hI => by
      obtain ⟨w, a⟩ := a
      obtain ⟨hI1, hI2, C1, hI4⟩ := hI
      have hI1 : w = zbm 1 (fun v => zha (zhp v K dd V hm ru rl rz) 0 q) i := hI1
      have hI2 : zB4 a := hI2
      have hI4 : zWal a M L C1 F Z K dd V hm := hI4
      have hCi : 1 ≤ i + 1 ∧ i + 1 ≤ 8 := ⟨by omega, by omega⟩
      obtain ⟨a2, f1, f2, f3, f4⟩ := x_frame (n := a) hCi
      have hW2 := zWal_C hI4 f2 f3 f4
      refine ⟨(zbm 1 (fun v => zha (zhp v K dd V hm ru rl rz) 0 q) (i + 1), a2), ⟨rfl, zB4_e hI2 (f4 3 (by decide) (by decide) (by decide)), i + 1, hW2⟩, ?_⟩
      show f_X3_cuts_L28 r (k + 1) w (nI (i + 1)) a = f_X3_cuts_L28 r k _ (nI (i + 1 + 1)) _
      rw [f_X3_cuts_L28, if_neg (show ¬ 8 < nI (i + 1) from nI_nlt (a := 8) (by omega) (by decide)), f1, q_b1, x_hold (zDat_C hD hp hCi) hW2 hR, q_b1, nI_1, hI1]
      exact zbm_x (o := 1) (H := fun v => zha (zhp v K dd V hm ru rl rz) 0 q) (k := i) (L := fun z => f_X3_cuts_L28 r k z (nI (i + 1 + 1)) a2))
    8 0 (0, t1) 100 (by omega) ⟨rfl, u3, C, u2⟩ (by omega)
  have b2 : f_X3_cuts_L28 r 100 0 1 t1 = some (a.1, a.2) := b2
  obtain ⟨c, d1, d2⟩ := zl_inv (fun k i (a : Int32 × zS) => f_X4_cuts_L19 k a.1 (nI (i + 1)) a.2) 8 (fun i a => a.1 = zbm 1 (fun v => zha (zhp v K dd V hm ru rl rz) 0 q) i ∧ (∀ c, c ≠ 3 → c ≠ 17 → c ≠ 18 → a.2 c = g c) ∧ ∃ C', zMod a.2 M L C' F Z K dd V hm) (fun a => a)
    (fun k a _ => by
      show f_X4_cuts_L19 (k + 1) a.1 (nI 9) a.2 = some (a.1, a.2)
      rw [f_X4_cuts_L19, if_pos (by decide)])
    (fun k i a hi hI => by
      obtain ⟨w, a⟩ := a
      obtain ⟨hI1, hI2, C1, hI4⟩ := hI
      have hI1 : w = zbm 1 (fun v => zha (zhp v K dd V hm ru rl rz) 0 q) i := hI1
      have hI2 : ∀ c, c ≠ 3 → c ≠ 17 → c ≠ 18 → a c = g c := hI2
      have hI4 : zMod a M L C1 F Z K dd V hm := hI4
      have hCi : 1 ≤ i + 1 ∧ i + 1 ≤ 8 := ⟨by omega, by omega⟩
      have hw := zMod_C (C' := i + 1) hI4
      have hr2 : zRd r (va_up a 3 (fun _ => nI (i + 1))) L q ru rl rz := zRd_g hR (fun c c1 c2 => by rw [q_upn (by omega)]; exact hI2 c (by omega) (by omega) (by omega))
      obtain ⟨g', f1, f2⟩ := m_areSo (zDat_C hD hp hCi) hw hp hr2
      refine ⟨(zbm 1 (fun v => zha (zhp v K dd V hm ru rl rz) 0 q) (i + 1), g'), ⟨rfl, ?_, i + 1, ?_⟩, ?_⟩
      · intro c c1 c2 c3
        show g' c = g c
        rw [f2 c c2 c3, q_upn c1, hI2 c c1 c2 c3]
      · exact zMod_g hw (fun c hc => f2 c (by omega) (by omega))
      · show f_X4_cuts_L19 (k + 1) w (nI (i + 1)) a = f_X4_cuts_L19 k _ (nI (i + 1 + 1)) g'
        rw [f_X4_cuts_L19, if_neg (show ¬ 8 < nI (i + 1) from nI_nlt (a := 8) (by omega) (by decide)), q_lt, f1, q_b2, nI_1, hI1]
        exact zbm_m (o := 1) (H := fun v => zha (zhp v K dd V hm ru rl rz) 0 q) (k := i) (L := fun z => f_X4_cuts_L19 k z (nI (i + 1 + 1)) g'))
    8 0 (0, g) 100 (by omega) ⟨rfl, fun _ _ _ _ => rfl, C, hM⟩ (by omega)
  have d2 : f_X4_cuts_L19 100 0 1 g = some (c.1, c.2) := d2
  rw [b2, d2, q_b2, q_b2, q_lt, b1.1, d1.1]
  refine ⟨_, _, _, rfl, rfl, zRel_t (zRel_g3 h rfl (fun k k3 hk => ?_)) b1.2.1⟩
  rw [q_upn k3, d1.2.1 k k3 (by omega) (by omega)]
