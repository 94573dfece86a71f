/-! sums and greatest ones, as numbers -/
def zsum (f : Nat → Nat) : Nat → Nat
  | 0 => 0
  | k + 1 => zsum f k + f k
theorem zi_sum {f : Nat → Nat} : ∀ d i a, zi (fun l x => x + nI (f l)) i d (nI a) = nI (a + zsum (fun j => f (i + j)) d)
  | 0, i, a => rfl
  | d + 1, i, a => by
    show zi (fun l x => x + nI (f l)) (i + 1) d (nI a + nI (f i)) = _
    rw [nI_add, zi_sum d (i + 1) (a + f i)]
    congr 1
    have key : ∀ (g : Nat → Nat) (d : Nat), zsum g (d + 1) = g 0 + zsum (fun j => g (j + 1)) d := by
      intro g d
      induction d with
      | zero => show 0 + g 0 = g 0 + 0; omega
      | succ d ih => show zsum g (d + 1) + g (d + 1) = g 0 + (zsum (fun j => g (j + 1)) d + g (d + 1)); rw [ih]; omega
    rw [key]
    have e : (fun j => f (i + (j + 1))) = (fun j => f (i + 1 + j)) := by
      funext j
      congr 1
      omega
    rw [e]
    show a + f i + _ = a + (f i + _)
    omega
theorem zsumI_n (f : Nat → Nat) (L : Nat) : zsumI f L = nI (zsum f L) := by
  have := zi_sum (f := f) L 0 0
  have e : (fun j => f (0 + j)) = f := by
    funext j
    congr 1
    omega
  rw [e, Nat.zero_add] at this
  exact this
theorem zsum_le {f : Nat → Nat} {b : Nat} : ∀ L, (∀ l, l < L → f l ≤ b) → zsum f L ≤ L * b
  | 0, _ => Nat.zero_le _
  | L + 1, h => by
    have h1 := zsum_le L (fun l hl => h l (by omega))
    have h2 := h L (by omega)
    show zsum f L + f L ≤ (L + 1) * b
    rw [Nat.succ_mul]
    omega
def zmx (f : Nat → Nat) : Nat → Nat
  | 0 => 0
  | k + 1 => max (zmx f k) (f k)
theorem zmx_ge {f : Nat → Nat} : ∀ {k i : Nat}, i < k → f i ≤ zmx f k
  | k + 1, i, h => by
    show f i ≤ max (zmx f k) (f k)
    by_cases c : i = k
    · subst c; omega
    · have := zmx_ge (f := f) (k := k) (i := i) (by omega)
      omega
theorem zmx_le {f : Nat → Nat} {b : Nat} : ∀ {k : Nat}, (∀ i, i < k → f i ≤ b) → zmx f k ≤ b
  | 0, _ => Nat.zero_le _
  | k + 1, h => by
    have h1 := zmx_le (f := f) (b := b) (k := k) (fun i hi => h i (by omega))
    have h2 := h k (by omega)
    show max (zmx f k) (f k) ≤ b
    omega
theorem zi_mx {f : Nat → Nat} (stp : Nat → Int32 → Int32) (B : Nat) (hs : ∀ t a, t < B → stp t (nI a) = nI (max a (f t))) : ∀ d, d ≤ B → zi stp 0 d (nI 0) = nI (zmx f d) := by
  have key : ∀ (d i : Nat) (a : Int32), zi stp i (d + 1) a = stp (i + d) (zi stp i d a) := by
    intro d
    induction d with
    | zero => intro i a; rfl
    | succ d ih =>
      intro i a
      show zi stp (i + 1) (d + 1) (stp i a) = stp (i + (d + 1)) (zi stp (i + 1) d (stp i a))
      rw [ih (i + 1) (stp i a)]
      congr 1
      omega
  intro d
  induction d with
  | zero => intro _; rfl
  | succ d ih =>
    intro hd
    rw [key, ih (by omega), Nat.zero_add, hs d _ (by omega)]
    rfl
theorem zpl_on : ∀ C : Fin 9, 1 ≤ C.val → ∀ p : Fin 4, ∃ t : Fin 15, zpl C.val t.val = p.val := by decide
section ZB
variable {n g : zS} {M L C : Nat} {F Z K dd V hm : Nat → Nat}
/-- the current of a plane, if lights were so many fifteenths -/
def zcu (K dd V hm : Nat → Nat) (L q p : Nat) : Nat := zsum (fun l => zbt (zlt K dd V hm l * q / 15) p) L
theorem zcu_le (p q : Nat) : zcu K dd V hm L q p ≤ L := by
  have := zsum_le (f := fun l => zbt (zlt K dd V hm l * q / 15) p) (b := 1) L (fun _ _ => zbt_le)
  unfold zcu
  omega
theorem q_dim {x q : Nat} (hx : x ≤ 13) (hq : q ≤ 15) : (nI x * nI q : Int32) / 15 = nI (x * q / 15) ∧ x * q / 15 < 16 := by
  have h1 : x * q ≤ 13 * 15 := Nat.mul_le_mul hx hq
  refine ⟨?_, by omega⟩
  rw [pk_mul, show (15 : Int32) = nI 15 from rfl, pk_div (by omega) (by decide) (by decide)]
theorem x_cur (h : zDat M L C F Z K dd V hm) (hW : zWal n M L C F Z K dd V hm) (hp : 0 < M) {q t : Nat} (hq : q ≤ 15) (ht : t < 15) : f_X2_greatestCurrentDimmed_L16 n (nI q) (nI t) 100 0 0 = some (nI (zcu K dd V hm L q (zpl C t))) := by
  have hL := h.l16
  have hC := (h.2.2.2.2.2.2.2 hp).2
  unfold zcu
  rw [← zsumI_n, show (f_X2_greatestCurrentDimmed_L16 n (nI q) (nI t) 100 0 0) = f_X2_greatestCurrentDimmed_L16 n (nI q) (nI t) 100 0 (nI 0) from rfl,
    zl_up (fun k i (a : Int32) => f_X2_greatestCurrentDimmed_L16 n (nI q) (nI t) k a (nI i)) L (fun l a => a + nI (zbt (zlt K dd V hm l * q / 15) (zpl C t))) (fun a => a)
      (fun k a => by
        show f_X2_greatestCurrentDimmed_L16 n (nI q) (nI t) (k + 1) a (nI L) = some a
        rw [f_X2_greatestCurrentDimmed_L16, hW.2.1, if_pos (nI_le (Nat.le_refl L) (by omega))])
      (fun k i a hi => by
        have hz := zlt_le h hi
        obtain ⟨d1, d2⟩ := q_dim hz hq
        show f_X2_greatestCurrentDimmed_L16 n (nI q) (nI t) (k + 1) a (nI i) = f_X2_greatestCurrentDimmed_L16 n (nI q) (nI t) k _ (nI (i + 1))
        rw [f_X2_greatestCurrentDimmed_L16, hW.2.1, if_neg (nI_ge hi (by omega)), x_light h hW hi, q_b1, q_rd ht (by decide), (hW.2.2.2.2.2 hp t ht).1, d1, (q_bit d2 (zpl_lt hC ht)).1, q_b1, nI_1]
        have hb := @zbt_le (zlt K dd V hm i * q / 15) (zpl C t)
        rcases (show zbt (zlt K dd V hm i * q / 15) (zpl C t) = 0 ∨ zbt (zlt K dd V hm i * q / 15) (zpl C t) = 1 by omega) with e | e
        · rw [e, if_pos (show nI 0 = (0 : Int32) from rfl)]; rfl
        · rw [e, if_neg (by decide)]; rfl)
      L 0 0 100 (by omega) (by omega)]
  rfl
theorem m_cur (h : zDat M L C F Z K dd V hm) (hW : zMod g M L C F Z K dd V hm) {q p : Nat} (hq : q ≤ 15) (hp : p < 4) : f_X4_greatest_L15 g (nI q) (nI p) 100 0 0 = some (nI (zcu K dd V hm L q p)) := by
  have hL := h.l16
  unfold zcu
  rw [← zsumI_n, show (f_X4_greatest_L15 g (nI q) (nI p) 100 0 0) = f_X4_greatest_L15 g (nI q) (nI p) 100 0 (nI 0) from rfl,
    zl_up (fun k i (a : Int32) => f_X4_greatest_L15 g (nI q) (nI p) k a (nI i)) L (fun l a => a + nI (zbt (zlt K dd V hm l * q / 15) p)) (fun a => a)
      (fun k a => by
        show f_X4_greatest_L15 g (nI q) (nI p) (k + 1) a (nI L) = some a
        rw [f_X4_greatest_L15, hW.2.1, if_pos (nI_le (Nat.le_refl L) (by omega))])
      (fun k i a hi => by
        have hz := zlt_le h hi
        obtain ⟨d1, d2⟩ := q_dim hz hq
        show f_X4_greatest_L15 g (nI q) (nI p) (k + 1) a (nI i) = f_X4_greatest_L15 g (nI q) (nI p) k _ (nI (i + 1))
        rw [f_X4_greatest_L15, hW.2.1, if_neg (nI_ge hi (by omega)), m_light h hW hi, q_b1, d1, (q_bit d2 hp).2, nI_1])
      L 0 0 100 (by omega) (by omega)]
  rfl
/-- the greatest current -/
def zgr (K dd V hm : Nat → Nat) (L q : Nat) : Nat := zmx (zcu K dd V hm L q) 4
theorem zgr_le (q : Nat) : zgr K dd V hm L q ≤ L := zmx_le (fun i _ => zcu_le i q)
theorem m_greatest (h : zDat M L C F Z K dd V hm) (hW : zMod g M L C F Z K dd V hm) {q : Nat} (hq : q ≤ 15) : f_X4_greatest g (nI q) = some (nI (zgr K dd V hm L q)) := by
  have hL := h.l16
  unfold f_X4_greatest
  rw [show (f_X4_greatest_L4 g (nI q) 100 0 0) = f_X4_greatest_L4 g (nI q) 100 (nI 0) (nI 0) from rfl,
    zl_up (fun k i (a : Int32) => f_X4_greatest_L4 g (nI q) k a (nI i)) 4 (fun p a => if nI (zcu K dd V hm L q p) ≤ a then a else nI (zcu K dd V hm L q p)) (fun a => a)
      (fun k a => by
        show f_X4_greatest_L4 g (nI q) (k + 1) a (nI 4) = some a
        rw [f_X4_greatest_L4, if_pos (by decide)])
      (fun k i a hi => by
        show f_X4_greatest_L4 g (nI q) (k + 1) a (nI i) = f_X4_greatest_L4 g (nI q) k _ (nI (i + 1))
        rw [f_X4_greatest_L4, if_neg (show ¬ 4 ≤ nI i from nI_ge (b := 4) hi (by decide)), m_cur h hW hq hi, q_b1, nI_1]
        by_cases c : nI (zcu K dd V hm L q i) ≤ a
        · rw [if_pos c, if_pos c]
        · rw [if_neg c, if_neg c])
      4 0 (nI 0) 100 (by omega) (by omega), q_b1]
  have key : ∀ a : Nat, a < 2 ^ 31 → ∀ p, (if nI (zcu K dd V hm L q p) ≤ nI a then nI a else nI (zcu K dd V hm L q p)) = nI (max a (zcu K dd V hm L q p)) := by
    intro a ha p
    have hc := @zcu_le L K dd V hm p q
    by_cases c : zcu K dd V hm L q p ≤ a
    · rw [if_pos (nI_le c ha), Nat.max_eq_left c]
    · rw [if_neg (nI_ge (by omega) (by omega)), Nat.max_eq_right (by omega)]
  -- four turns
  show some (if nI (zcu K dd V hm L q 3) ≤ (if nI (zcu K dd V hm L q 2) ≤ (if nI (zcu K dd V hm L q 1) ≤ (if nI (zcu K dd V hm L q 0) ≤ nI 0 then nI 0 else nI (zcu K dd V hm L q 0)) then (if nI (zcu K dd V hm L q 0) ≤ nI 0 then nI 0 else nI (zcu K dd V hm L q 0)) else nI (zcu K dd V hm L q 1)) then (if nI (zcu K dd V hm L q 1) ≤ (if nI (zcu K dd V hm L q 0) ≤ nI 0 then nI 0 else nI (zcu K dd V hm L q 0)) then (if nI (zcu K dd V hm L q 0) ≤ nI 0 then nI 0 else nI (zcu K dd V hm L q 0)) else nI (zcu K dd V hm L q 1)) else nI (zcu K dd V hm L q 2)) then (if nI (zcu K dd V hm L q 2) ≤ (if nI (zcu K dd V hm L q 1) ≤ (if nI (zcu K dd V hm L q 0) ≤ nI 0 then nI 0 else nI (zcu K dd V hm L q 0)) then (if nI (zcu K dd V hm L q 0) ≤ nI 0 then nI 0 else nI (zcu K dd V hm L q 0)) else nI (zcu K dd V hm L q 1)) then (if nI (zcu K dd V hm L q 1) ≤ (if nI (zcu K dd V hm L q 0) ≤ nI 0 then nI 0 else nI (zcu K dd V hm L q 0)) then (if nI (zcu K dd V hm L q 0) ≤ nI 0 then nI 0 else nI (zcu K dd V hm L q 0)) else nI (zcu K dd V hm L q 1)) else nI (zcu K dd V hm L q 2)) else nI (zcu K dd V hm L q 3)) = some (nI (zgr K dd V hm L q))
  have c0 := @zcu_le L K dd V hm 0 q
  have c1 := @zcu_le L K dd V hm 1 q
  have c2 := @zcu_le L K dd V hm 2 q
  rw [key 0 (by decide) 0, key _ (by omega) 1, key _ (by omega) 2, key _ (by omega) 3]
  rfl
theorem x_greatest (h : zDat M L C F Z K dd V hm) (hW : zWal n M L C F Z K dd V hm) (hp : 0 < M) {q : Nat} (hq : q ≤ 15) : f_X2_greatestCurrentDimmed n (nI q) = some (nI (zgr K dd V hm L q)) := by
  have hL := h.l16
  have hC := h.2.2.2.2.2.2.2 hp
  unfold f_X2_greatestCurrentDimmed
  rw [show (f_X2_greatestCurrentDimmed_L4 n (nI q) 100 0 0) = f_X2_greatestCurrentDimmed_L4 n (nI q) 100 (nI 0) (nI 0) from rfl]
  obtain ⟨a', h1, h2⟩ := zl_inv (fun k i (a : Int32) => f_X2_greatestCurrentDimmed_L4 n (nI q) k a (nI i)) 15 (fun i a => a = nI (zmx (fun t => zcu K dd V hm L q (zpl C t)) i)) (fun a => a)
    (fun k a _ => by
      show f_X2_greatestCurrentDimmed_L4 n (nI q) (k + 1) a (nI 15) = some a
      rw [f_X2_greatestCurrentDimmed_L4, if_pos (by decide)])
    (fun k i a hi hI => by
      refine ⟨_, rfl, ?_⟩
      show f_X2_greatestCurrentDimmed_L4 n (nI q) (k + 1) a (nI i) = f_X2_greatestCurrentDimmed_L4 n (nI q) k _ (nI (i + 1))
      have hz : zmx (fun t => zcu K dd V hm L q (zpl C t)) i ≤ L := zmx_le (fun j _ => zcu_le _ q)
      have hc := @zcu_le L K dd V hm (zpl C i) q
      rw [f_X2_greatestCurrentDimmed_L4, if_neg (show ¬ 15 ≤ nI i from nI_ge (b := 15) hi (by decide)), x_cur h hW hp hq hi, q_b1, nI_1, hI]
      congr 1
      show _ = nI (max (zmx (fun t => zcu K dd V hm L q (zpl C t)) i) (zcu K dd V hm L q (zpl C i)))
      by_cases c : zmx (fun t => zcu K dd V hm L q (zpl C t)) i < zcu K dd V hm L q (zpl C i)
      · rw [if_pos (nI_lt c (by omega)), Nat.max_eq_right (by omega)]
      · rw [if_neg (nI_nlt (by omega) (by omega)), Nat.max_eq_left (by omega)])
    15 0 (nI 0) 100 (by omega) rfl (by omega)
  rw [h2, q_b1, h1]
  refine congrArg (fun z => some (nI z)) ?_
  apply Nat.le_antisymm
  · exact zmx_le (fun t ht => zmx_ge (zpl_lt hC.2 ht))
  · refine zmx_le (fun p hp => ?_)
    obtain ⟨t, ht⟩ := zpl_on ⟨C, by omega⟩ hC.1 ⟨p, hp⟩
    have := zmx_ge (f := fun t => zcu K dd V hm L q (zpl C t)) (k := 15) (i := t.val) t.isLt
    have e : zpl C t.val = p := ht
    rw [← e]
    exact this
end ZB
/-- the last of 1..k that holds, or 0 -/
def zla' (P : Nat → Bool) : Nat → Nat
  | 0 => 0
  | k + 1 => if P (k + 1) = true then k + 1 else zla' P k
theorem zla_le (P : Nat → Bool) : ∀ k, zla' P k ≤ k
  | 0 => Nat.le_refl 0
  | k + 1 => by
    show (if P (k + 1) = true then k + 1 else zla' P k) ≤ k + 1
    have := zla_le P k
    split <;> omega
theorem p_bears {o : zS} {s : zS4} {n : zS} {t : zS} {r : zS} {g : zS} (h : zRel o s n t r g) (x1 : Int32) : ∃ (r0 : Int32), f_X3_bears n x1 = some r0 ∧ f_X4_bears g x1 = some r0 ∧ zRel o s n t r g := by
  obtain ⟨e1, e2, e3, e4, e5, M, L, C, F, Z, K, dd, V, hm, q, ru, rl, rz, hD, hW, hM, hR⟩ := id h
  have hL := hD.l16
  unfold f_X3_bears f_X4_bears
  have h0 : (0 : Int64).toInt = 0 := by decide
  have h16 : (16 : Int64).toInt = 16 := by decide
  rcases q_rng x1 0 16 (by decide) with ⟨b, -, hb, rfl⟩ | hj
  rotate_left
  · rw [q_inF (by rw [h0, h16]; omega), q_b1, if_pos i00]
    by_cases c : x1 < 0
    · rw [if_pos c]
      exact ⟨_, rfl, rfl, h⟩
    · rw [if_neg c, if_neg (by rw [q_le x1 16 (by decide)]; rw [q_l x1 0 (by decide)] at c; omega)]
      exact ⟨_, rfl, rfl, h⟩
  rw [if_neg (nI_pos (by omega)), if_pos (show nI b ≤ 16 from nI_le hb (by decide)), q_inT (by rw [h0, h16, q_ti (by omega)]; omega), q_b1, if_neg i10]
  rcases k_stands hD.1 hW.1 hM.1 with ⟨hp, hs1, hs2⟩ | ⟨hp, hs1, hs2⟩
  rotate_left
  · rw [hs1, q_b1, if_pos i00, if_pos hs2]
    exact ⟨_, rfl, rfl, h⟩
  rw [hs1, q_b1, if_neg i10, if_neg hs2]
  obtain ⟨P, hP⟩ : ∃ P : Nat → Bool, ∀ k, P k = true ↔ zgr K dd V hm L k ≤ b := ⟨fun k => decide (zgr K dd V hm L k ≤ b), fun k => by simp⟩
  -- downwards
  have hdown : ∀ k : Nat, k ≤ 15 → ∀ f, k < f → f_X3_bears_L29 n (nI b) f (nI k) = if zla' P k = 0 then some (Sum.inl ()) else some (Sum.inr (nI (zla' P k))) := by
    intro k
    induction k with
    | zero =>
      intro _ f hf
      obtain ⟨f, rfl⟩ : ∃ z, f = z + 1 := ⟨f - 1, by omega⟩
      rw [f_X3_bears_L29, if_pos (by decide), if_pos (show zla' P 0 = 0 from rfl)]
    | succ k ih =>
      intro hk f hf
      obtain ⟨f, rfl⟩ : ∃ z, f = z + 1 := ⟨f - 1, by omega⟩
      have hz := @zgr_le L K dd V hm (k + 1)
      rw [f_X3_bears_L29, if_neg (nI_nle (by omega) (by omega)), x_greatest hD hW hp hk, q_b1]
      show _ = if (if P (k + 1) = true then k + 1 else zla' P k) = 0 then _ else some (Sum.inr (nI (if P (k + 1) = true then k + 1 else zla' P k)))
      by_cases c : zgr K dd V hm L (k + 1) ≤ b
      · rw [if_neg (nI_nlt c (by omega)), if_pos ((hP (k + 1)).mpr c), if_neg (by omega)]
      · rw [if_pos (nI_lt (by omega) (by omega)), if_neg (fun z => c ((hP (k + 1)).mp z)), pk_m1, ih (by omega) f (by omega)]
  have hup : f_X4_bears_L29 g (nI b) 100 0 1 = some (nI (zla' P 15)) := by
    obtain ⟨a', h1, h2⟩ := zl_inv (fun f i (a : Int32) => f_X4_bears_L29 g (nI b) f a (nI (i + 1))) 15 (fun i a => a = nI (zla' P i)) (fun a => a)
      (fun k a _ => by
        show f_X4_bears_L29 g (nI b) (k + 1) a (nI 16) = some a
        rw [f_X4_bears_L29, if_pos (by decide)])
      (fun k i a hi hI => by
        have hz := @zgr_le L K dd V hm (i + 1)
        refine ⟨_, rfl, ?_⟩
        show f_X4_bears_L29 g (nI b) (k + 1) a (nI (i + 1)) = f_X4_bears_L29 g (nI b) k (nI (if P (i + 1) = true then i + 1 else zla' P i)) (nI (i + 1 + 1))
        rw [f_X4_bears_L29, if_neg (show ¬ 15 < nI (i + 1) from nI_nlt (a := 15) (by omega) (by decide)), m_greatest hD hM (by omega), q_b1, nI_1, hI]
        by_cases c : zgr K dd V hm L (i + 1) ≤ b
        · rw [if_neg (nI_nlt c (by omega)), if_pos ((hP (i + 1)).mpr c)]
        · rw [if_pos (nI_lt (by omega) (by omega)), if_neg (fun z => c ((hP (i + 1)).mp z))])
      15 0 (nI 0) 100 (by omega) rfl (by omega)
    rw [← h1]
    exact h2
  rw [hup, q_b1, show (15 : Int32) = nI 15 from rfl, hdown 15 (by omega) 100 (by omega)]
  have hl := zla_le P 15
  by_cases c : zla' P 15 = 0
  · rw [if_pos c, c]
    exact ⟨_, rfl, rfl, h⟩
  · rw [if_neg c]
    exact ⟨_, rfl, rfl, h⟩
