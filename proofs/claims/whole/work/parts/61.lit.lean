def zbt (x p : Nat) : Nat := x / 2 ^ p % 2
theorem zbt_le {x p : Nat} : zbt x p ≤ 1 := by unfold zbt; omega
theorem q_bit0 : ∀ x : Fin 16, ∀ p : Fin 4, f_X3_hasBit (nI x.val) (nI p.val) = some (nI (zbt x.val p.val)) ∧ ((nI x.val >>> (nI p.val &&& 31)) &&& 1) = nI (zbt x.val p.val) := by decide
theorem q_bit {x p : Nat} (hx : x < 16) (hp : p < 4) : f_X3_hasBit (nI x) (nI p) = some (nI (zbt x p)) ∧ ((nI x >>> (nI p &&& 31)) &&& 1) = nI (zbt x p) := q_bit0 ⟨x, hx⟩ ⟨p, hp⟩
theorem zpl_lt0 : ∀ C : Fin 9, ∀ t : Fin 15, zpl C.val t.val < 4 := by decide
theorem zpl_lt {C t : Nat} (hC : C ≤ 8) (ht : t < 15) : zpl C t < 4 := zpl_lt0 ⟨C, by omega⟩ ⟨t, ht⟩
def zst (b t : Nat) (a : Int32) : Int32 := if b = 1 then a ||| (1 <<< (nI t &&& 31)) else a
theorem zst_m {b t : Nat} {a : Int32} (hb : b ≤ 1) : a ||| (nI b <<< (nI t &&& 31)) = zst b t a := by
  unfold zst
  rcases (show b = 0 ∨ b = 1 by omega) with rfl | rfl
  · rw [if_neg (by decide), show nI 0 = (0 : Int32) from rfl, Int32.zero_shiftLeft, Int32.or_zero]
  · rw [if_pos rfl]
    rfl
theorem zst_x {b t : Nat} {a : Int32} {β : Type} {L : Int32 → β} (hb : b ≤ 1) : (if nI b = 0 then L a else L (a ||| (1 <<< (nI t &&& 31)))) = L (zst b t a) := by
  unfold zst
  rcases (show b = 0 ∨ b = 1 by omega) with rfl | rfl
  · rw [if_pos (show nI 0 = (0 : Int32) from rfl), if_neg (by decide)]
  · rw [if_neg (by decide), if_pos rfl]
/-- the units in which a light is lit -/
def zlu (C x : Nat) : Int32 := zi (fun t a => zst (zbt x (zpl C t)) t a) 0 15 0
section ZL
variable {n g : zS} {M L C : Nat} {F Z K dd V hm : Nat → Nat}
theorem x_isLit (h : zDat M L C F Z K dd V hm) (hW : zWal n M L C F Z K dd V hm) {l t : Nat} (hl : l < L) (ht : t < 15) (hM : 0 < M) : f_X2_isLit n (nI l) (nI t) = some (nI (zbt (zlt K dd V hm l) (zpl C t))) := by
  have hC := (h.2.2.2.2.2.2.2 hM).2
  have hz := zlt_le h hl
  unfold f_X2_isLit
  rw [x_light h hW hl, q_b1, q_rd ht (by decide), (hW.2.2.2.2.2 hM t ht).1, (q_bit (by omega) (zpl_lt hC ht)).1, q_b1]
  have := @zbt_le (zlt K dd V hm l) (zpl C t)
  rcases (show zbt (zlt K dd V hm l) (zpl C t) = 0 ∨ zbt (zlt K dd V hm l) (zpl C t) = 1 by omega) with e | e
  · rw [e]; rfl
  · rw [e]; rfl
theorem zDat.pos (h : zDat M L C F Z K dd V hm) {l : Nat} (hl : l < L) : 0 < M := by
  obtain ⟨m, j, h1, -⟩ := h.home hl
  omega
theorem x_litUnits (h : zDat M L C F Z K dd V hm) (hW : zWal n M L C F Z K dd V hm) {l : Nat} (hl : l < L) : f_X2_litUnits n (nI l) = some (zlu C (zlt K dd V hm l)) := by
  have hM := h.pos hl
  have hC := (h.2.2.2.2.2.2.2 hM).2
  have hz := zlt_le h hl
  unfold f_X2_litUnits
  rw [x_light h hW hl, q_b1, show (f_X2_litUnits_L11 n (nI (zlt K dd V hm l)) 100 0 0) = f_X2_litUnits_L11 n (nI (zlt K dd V hm l)) 100 0 (nI 0) from rfl,
    zl_up (fun k i (a : Int32) => f_X2_litUnits_L11 n (nI (zlt K dd V hm l)) k a (nI i)) 15 (fun t a => zst (zbt (zlt K dd V hm l) (zpl C t)) t a) (fun a => a)
      (fun k a => by
        show f_X2_litUnits_L11 n (nI (zlt K dd V hm l)) (k + 1) a (nI 15) = some a
        rw [f_X2_litUnits_L11, if_pos (by decide)])
      (fun k i a hi => by
        show f_X2_litUnits_L11 n (nI (zlt K dd V hm l)) (k + 1) a (nI i) = f_X2_litUnits_L11 n (nI (zlt K dd V hm l)) k _ (nI (i + 1))
        rw [f_X2_litUnits_L11, if_neg (show ¬ 15 ≤ nI i from nI_ge (b := 15) hi (by decide)), q_rd hi (by decide), (hW.2.2.2.2.2 hM i hi).1, (q_bit (by omega) (zpl_lt hC hi)).1, q_b1, nI_1]
        exact zst_x (L := fun a => f_X2_litUnits_L11 n (nI (zlt K dd V hm l)) k a (nI (i + 1))) zbt_le)
      15 0 0 100 (by omega) (by omega)]
  rfl
theorem m_litBy {x : Nat} (hx : x < 16) (hC : C ≤ 8) (hf : ∀ t, t < 15 → g 17 t = nI (zpl C t)) : f_X4_litBy g (nI x) = some (zlu C x) := by
  unfold f_X4_litBy
  rw [show (f_X4_litBy_L4 g (nI x) 100 0 0) = f_X4_litBy_L4 g (nI x) 100 0 (nI 0) from rfl,
    zl_up (fun k i (a : Int32) => f_X4_litBy_L4 g (nI x) k a (nI i)) 15 (fun t a => zst (zbt x (zpl C t)) t a) (fun a => a)
      (fun k a => by
        show f_X4_litBy_L4 g (nI x) (k + 1) a (nI 15) = some a
        rw [f_X4_litBy_L4, if_pos (by decide)])
      (fun k i a hi => by
        show f_X4_litBy_L4 g (nI x) (k + 1) a (nI i) = f_X4_litBy_L4 g (nI x) k _ (nI (i + 1))
        rw [f_X4_litBy_L4, if_neg (show ¬ 15 ≤ nI i from nI_ge (b := 15) hi (by decide)), q_rd hi (by decide), hf i hi, (q_bit hx (zpl_lt hC hi)).2, zst_m zbt_le, nI_1])
      15 0 0 100 (by omega) (by omega)]
  rfl
theorem m_litOf (h : zDat M L C F Z K dd V hm) (hW : zMod g M L C F Z K dd V hm) (hf : ∀ t, t < 15 → g 17 t = nI (zpl C t)) {l : Nat} (hl : l < L) : f_X4_litOf g (nI l) = some (zlu C (zlt K dd V hm l)) := by
  have hz := zlt_le h hl
  have hC := (h.2.2.2.2.2.2.2 (h.pos hl)).2
  unfold f_X4_litOf
  rw [m_light h hW hl, q_b1, m_litBy (by omega) hC hf, q_b1]
/-- dark, turns, ghosts: by cut and light alone -/
def zdk (C x : Nat) : Int32 := (f_X3_darkestStretch (zlu C x)).getD 0
def ztn (C x : Nat) : Int32 := (f_X3_turnsOf (zlu C x)).getD 0
def zgh (C x y : Nat) : Int32 := zlu C x &&& (zlu C y ^^^ (-1))
end ZL
set_option maxRecDepth 100000 in
theorem zdk_t : ∀ C : Fin 9, ∀ x : Fin 14, f_X3_darkestStretch (zlu C.val x.val) = some (zdk C.val x.val) ∧ zq_b1 (f_X4_darkOf_L14 (zlu C.val x.val) 100 0 0 0) (fun y8 => if y8 ≤ 15 then some y8 else some 15) = some (zdk C.val x.val) := by decide +kernel
set_option maxRecDepth 100000 in
theorem ztn_t : ∀ C : Fin 9, ∀ x : Fin 14, f_X3_turnsOf (zlu C.val x.val) = some (ztn C.val x.val) ∧ f_X4_turnsOf_L11 (zlu C.val x.val) 100 0 0 = some (ztn C.val x.val) := by decide +kernel
set_option maxRecDepth 100000 in
theorem zgh_t : ∀ C : Fin 9, ∀ x y : Fin 14, zlu C.val x.val &&& (32767 - zlu C.val y.val) = zgh C.val x.val y.val := by decide +kernel
