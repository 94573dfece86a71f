theorem q_fit {v : Int32} (h : v = 0 ∨ v = 1) : fits .boolean (.int v) = true := by
  rcases h with rfl | rfl <;> rfl
theorem q_cp0 {f g : Nat → Int32} {k i : Nat} (h : i < k) : va_cpy f g 0 0 k i = f i := by
  rw [pk_cpy_in (by omega) (by omega)]
  congr 1
  omega
theorem x_like {n t : zS} (hb : zB4 t) : ∃ n', f_X2_becomeLike n t = some n' ∧ (∀ i, i < 4 → n' 0 i = t 0 i ∧ n' 1 i = t 1 i ∧ n' 2 i = t 2 i ∧ n' 3 i = t 3 i) ∧ (∀ i, i < 16 → n' 4 i = t 4 i ∧ n' 5 i = t 5 i) ∧ (∀ i, i < 15 → n' 6 i = t 6 i ∧ n' 7 i = t 7 i) ∧ n' 8 0 = t 8 0 ∧ n' 9 0 = t 9 0 ∧ n' 10 0 = t 10 0 := by
  have z0 : Int32.toNatClampNeg 0 = 0 := by decide
  have z4 : Int32.toNatClampNeg 4 = 4 := by decide
  have z16 : Int32.toNatClampNeg 16 = 16 := by decide
  have z15 : Int32.toNatClampNeg 15 = 15 := by decide
  have c0 : ∀ f : Nat → Int32, ∀ k : Int32, ((¬ (0 : Int32) < 0) ∧ (¬ (0 : Int32) < 0) ∧ (¬ k < 0)) → ∀ N : Nat, k.toNatClampNeg = N → (((¬ (0 : Int32) < 0) ∧ (¬ (0 : Int32) < 0) ∧ (¬ k < 0)) ∧ ((0 : Int32).toNatClampNeg + k.toNatClampNeg ≤ N ∧ (0 : Int32).toNatClampNeg + k.toNatClampNeg ≤ N) ∧ (∀ i, i < k.toNatClampNeg → fits .int (.int (f ((0 : Int32).toNatClampNeg + i))) = true)) :=
    fun f k hk N hN => ⟨hk, ⟨by rw [z0]; omega, by rw [z0]; omega⟩, fun _ _ => rfl⟩
  unfold f_X2_becomeLike zq_cp
  rw [if_pos (c0 _ 4 (by decide) 4 (by decide)), q_lt, if_pos (c0 _ 4 (by decide) 4 (by decide)), q_lt, if_pos (c0 _ 4 (by decide) 4 (by decide)), q_lt,
    if_pos ⟨⟨by decide, by decide, by decide⟩, ⟨by decide, by decide⟩, fun i hi => q_fit (hb _ (by rw [z4] at hi; rw [z0]; omega))⟩, q_lt,
    if_pos (c0 _ 16 (by decide) 16 (by decide)), q_lt, if_pos (c0 _ 16 (by decide) 16 (by decide)), q_lt, if_pos (c0 _ 15 (by decide) 15 (by decide)), q_lt, if_pos (c0 _ 15 (by decide) 15 (by decide)), q_lt, q_lt, q_lt, q_lt, z0, z4, z15, z16]
  refine ⟨_, rfl, fun i hi => ⟨?_, ?_, ?_, ?_⟩, fun i hi => ⟨?_, ?_⟩, fun i hi => ⟨?_, ?_⟩, rfl, rfl, rfl⟩
  · exact (q_cp0 (f := t 0) hi)
  · exact (q_cp0 (f := t 1) hi)
  · exact (q_cp0 (f := t 2) hi)
  · exact (q_cp0 (f := t 3) hi)
  · exact (q_cp0 (f := t 4) hi)
  · exact (q_cp0 (f := t 5) hi)
  · exact (q_cp0 (f := t 6) hi)
  · exact (q_cp0 (f := t 7) hi)
/-- another wall becomes like this one -/
theorem x_likeW {n t : zS} {M L C : Nat} {F Z K dd V hm : Nat → Nat} (h : zDat M L C F Z K dd V hm) (hW : zWal t M L C F Z K dd V hm) (hb : zB4 t) : ∃ n', f_X2_becomeLike n t = some n' ∧ zWal n' M L C F Z K dd V hm ∧ zB4 n' := by
  obtain ⟨n', a1, a2, a3, a4, a5, a6, a7⟩ := x_like (n := n) hb
  have hL := h.l16
  obtain ⟨h1, h2, h3, h4, h5, h6⟩ := hW
  refine ⟨n', a1, ⟨by rw [a5]; exact h1, by rw [a6]; exact h2, by rw [a7]; exact h3, fun m hm => ?_, fun l hl => ?_, fun hp t ht => ?_⟩, fun i hi => ?_⟩
  · obtain ⟨b1, b2, b3, b4⟩ := a2 m (Nat.lt_of_lt_of_le hm h.1)
    rw [b1, b2, b3, b4]
    exact h4 m hm
  · obtain ⟨b1, b2⟩ := a3 l (by omega)
    rw [b1, b2]
    exact h5 l hl
  · obtain ⟨b1, b2⟩ := a4 t ht
    rw [b1, b2]
    exact h6 hp t ht
  · rw [(a2 i hi).2.2.2]
    exact hb i hi
/-- how many slices -/
def zsc (C p : Nat) : Int32 := zi (fun t a => if nI (zpl C t) = nI p then (if a < nI (zsl C t) + 1 then nI (zsl C t) + 1 else a) else a) 0 15 0
theorem zsc_t : ∀ C : Fin 8, ∀ p : Fin 4, (((1 <<< (nI p.val &&& 31)) + nI (C.val + 1)) - 1) / nI (C.val + 1) = zsc (C.val + 1) p.val := by decide +kernel
section ZV
variable {n g : zS} {M L C : Nat} {F Z K dd V hm : Nat → Nat}
theorem x_slicesOf (hp : 0 < M) (hW : zWal n M L C F Z K dd V hm) (p : Nat) : f_X2_slicesOf n (nI p) = some (zsc C p) := by
  unfold f_X2_slicesOf
  rw [show (f_X2_slicesOf_L4 n (nI p) 100 0 0) = f_X2_slicesOf_L4 n (nI p) 100 0 (nI 0) from rfl,
    zl_up (fun k i (a : Int32) => f_X2_slicesOf_L4 n (nI p) k a (nI i)) 15 (fun t a => if nI (zpl C t) = nI p then (if a < nI (zsl C t) + 1 then nI (zsl C t) + 1 else a) else a) (fun a => a)
      (fun k a => by
        show f_X2_slicesOf_L4 n (nI p) (k + 1) a (nI 15) = some a
        rw [f_X2_slicesOf_L4, if_pos (by decide)])
      (fun k i a hi => by
        show f_X2_slicesOf_L4 n (nI p) (k + 1) a (nI i) = f_X2_slicesOf_L4 n (nI p) k _ (nI (i + 1))
        rw [f_X2_slicesOf_L4, if_neg (show ¬ 15 ≤ nI i from nI_ge (b := 15) hi (by decide)), q_rd hi (by decide), (hW.2.2.2.2.2 hp i hi).1, q_rd hi (by decide), (hW.2.2.2.2.2 hp i hi).2]
        by_cases c : nI (zpl C i) = nI p
        · rw [if_pos c, if_pos c, nI_1 i]
        · rw [if_neg c, if_neg c, nI_1 i])
      15 0 0 100 (by omega) (by omega)]
  rfl
theorem m_slicesOf (hC : 1 ≤ C ∧ C ≤ 8) (hg : g 3 0 = nI C) {p : Nat} (hp : p < 4) : f_X4_slicesOf g (nI p) = some (zsc C p) := by
  unfold f_X4_slicesOf zq_dv
  rw [hg, if_pos (nI_ne0 (by omega) (by omega))]
  have := zsc_t ⟨C - 1, by omega⟩ ⟨p, hp⟩
  rw [show (⟨C - 1, by omega⟩ : Fin 8).val + 1 = C from by show C - 1 + 1 = C; omega] at this
  exact congrArg some this
end ZV
theorem p_slices {o : zS} {s : zS4} {n : zS} {t : zS} {r : zS} {g : zS} (h : zRel o s n t r g) (x1 : Int32) : ∃ (r0 : Int32), f_X3_slices n x1 = some r0 ∧ f_X4_slices g x1 = some r0 ∧ zRel o s n t r g := by
  obtain ⟨e1, e2, e3, e4, e5, M, L, C, F, Z, K, dd, V, hm, q, ru, rl, rz, hD, hW, hM, hR⟩ := id h
  unfold f_X3_slices f_X4_slices
  have h1 : (-1 : Int64).toInt = -1 := by decide
  have h3 : (3 : Int64).toInt = 3 := by decide
  by_cases c1 : x1 < -1
  · rw [if_pos c1]
    rw [q_l x1 (-1) (by decide)] at c1
    rw [q_inF (by rw [h1, h3]; omega), q_b1, if_pos i00]
    exact ⟨_, rfl, rfl, h⟩
  rw [if_neg c1]
  rw [q_l x1 (-1) (by decide)] at c1
  by_cases c2 : x1 < 4
  rotate_left
  · rw [if_neg c2]
    rw [q_l x1 4 (by decide)] at c2
    rw [q_inF (by rw [h1, h3]; omega), q_b1, if_pos i00]
    exact ⟨_, rfl, rfl, h⟩
  rw [if_pos c2]
  rw [q_l x1 4 (by decide)] at c2
  rw [q_inT (by rw [h1, h3]; omega), q_b1, if_neg i10]
  rcases k_stands hD.1 hW.1 hM.1 with ⟨hp, hs1, hs2⟩ | ⟨hp, hs1, hs2⟩
  rotate_left
  · rw [hs1, q_b1, if_pos i00, if_pos hs2]
    exact ⟨_, rfl, rfl, h⟩
  rw [hs1, q_b1, if_neg i10, if_neg hs2]
  have hC := hD.2.2.2.2.2.2.2 hp
  have hm3 := hM.2.2.1
  have hml : f_X4_slices_L31 g x1 100 0 0 = some (zi (fun q a => if x1 < 0 then a + zsc C q else if x1 = nI q then a + zsc C q else a + 0) 0 4 0) := by
    rw [show (f_X4_slices_L31 g x1 100 0 0) = f_X4_slices_L31 g x1 100 0 (nI 0) from rfl,
      zl_up (fun k i (a : Int32) => f_X4_slices_L31 g x1 k a (nI i)) 4 (fun q a => if x1 < 0 then a + zsc C q else if x1 = nI q then a + zsc C q else a + 0) (fun a => a)
        (fun k a => by
          show f_X4_slices_L31 g x1 (k + 1) a (nI 4) = some a
          rw [f_X4_slices_L31, if_pos (by decide)])
        (fun k i a hi => by
          show f_X4_slices_L31 g x1 (k + 1) a (nI i) = f_X4_slices_L31 g x1 k _ (nI (i + 1))
          rw [f_X4_slices_L31, if_neg (show ¬ 4 ≤ nI i from nI_ge (b := 4) hi (by decide)), m_slicesOf hC hm3 hi, q_b1, nI_1]
          by_cases d1 : x1 < 0
          · rw [if_pos d1, if_pos d1]
          · rw [if_neg d1, if_neg d1]
            by_cases d2 : x1 = nI i
            · rw [if_pos d2, if_pos d2]
            · rw [if_neg d2, if_neg d2])
        4 0 0 100 (by omega) (by omega)]
  rw [hml, q_b1]
  by_cases c3 : x1 < 0
  · have hxl : f_X3_slices_L43 n 100 0 0 = some (zi (fun q a => a + zsc C q) 0 4 0) := by
      rw [show (f_X3_slices_L43 n 100 0 0) = f_X3_slices_L43 n 100 0 (nI 0) from rfl,
        zl_up (fun k i (a : Int32) => f_X3_slices_L43 n k a (nI i)) 4 (fun q a => a + zsc C q) (fun a => a)
          (fun k a => by
            show f_X3_slices_L43 n (k + 1) a (nI 4) = some a
            rw [f_X3_slices_L43, if_pos (by decide)])
          (fun k i a hi => by
            show f_X3_slices_L43 n (k + 1) a (nI i) = f_X3_slices_L43 n k _ (nI (i + 1))
            rw [f_X3_slices_L43, if_neg (show ¬ 4 ≤ nI i from nI_ge (b := 4) hi (by decide)), x_slicesOf hp hW i, q_b1, nI_1])
          4 0 0 100 (by omega) (by omega)]
    rw [if_pos c3, hxl, q_b1]
    refine ⟨_, rfl, ?_, h⟩
    exact congrArg some (zi_congr 4 0 0 (fun j x _ _ => by rw [if_pos c3]))
  · rw [if_neg c3]
    obtain ⟨p, hp4, rfl⟩ : ∃ j : Nat, j < 4 ∧ x1 = nI j := by
      rcases q_ix x1 4 (by decide) with z | z
      · exact z
      · have := q_out (by decide) z
        rw [q_l x1 0 (by decide)] at c3
        omega
    rw [x_slicesOf hp hW p, q_b1]
    refine ⟨_, rfl, ?_, h⟩
    refine congrArg some ?_
    rw [zi_congr (g := fun q a => if p = q then a + zsc C q else a) 4 0 0 (fun j x _ hj => by
      rw [if_neg c3]
      by_cases d : p = j
      · rw [if_pos (by rw [d]), if_pos d]
      · rw [if_neg (by rw [nI_eq (by omega) (by omega)]; exact d), if_neg d, Int32.add_zero])]
    rcases (show p = 0 ∨ p = 1 ∨ p = 2 ∨ p = 3 by omega) with rfl | rfl | rfl | rfl
    · exact Int32.zero_add _
    · exact Int32.zero_add _
    · exact Int32.zero_add _
    · exact Int32.zero_add _
