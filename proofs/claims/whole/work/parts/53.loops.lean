theorem i10 : ¬ (1 : Int32) = 0 := by decide
theorem i00 : (0 : Int32) = 0 := rfl
/-! loops that count up -/
def zi {α : Type} (stp : Nat → α → α) : Nat → Nat → α → α
  | _, 0, a => a
  | i, d + 1, a => zi stp (i + 1) d (stp i a)
theorem zl_up {α β : Type} (L : Nat → Nat → α → Option β) (b : Nat) (stp : Nat → α → α) (fin : α → β) (hx : ∀ k a, L (k + 1) b a = some (fin a)) (hs : ∀ k i a, i < b → L (k + 1) i a = L k (i + 1) (stp i a)) : ∀ d i a k, i + d = b → d < k → L k i a = some (fin (zi stp i d a))
  | 0, i, a, k, hb, hk => by
    obtain ⟨k, rfl⟩ : ∃ q, k = q + 1 := ⟨k - 1, by omega⟩
    have : i = b := by omega
    subst this
    exact hx k a
  | d + 1, i, a, k, hb, hk => by
    obtain ⟨k, rfl⟩ : ∃ q, k = q + 1 := ⟨k - 1, by omega⟩
    rw [hs k i a (by omega)]
    exact zl_up L b stp fin hx hs d (i + 1) (stp i a) k (by omega) (by omega)
theorem zl_inv {α β : Type} (L : Nat → Nat → α → Option β) (b : Nat) (I : Nat → α → Prop) (fin : α → β) (hx : ∀ k a, I b a → L (k + 1) b a = some (fin a)) (hs : ∀ k i a, i < b → I i a → ∃ a', I (i + 1) a' ∧ L (k + 1) i a = L k (i + 1) a') : ∀ d i a k, i + d = b → I i a → d < k → ∃ a', I b a' ∧ L k i a = some (fin a')
  | 0, i, a, k, hb, hI, hk => by
    obtain ⟨k, rfl⟩ : ∃ q, k = q + 1 := ⟨k - 1, by omega⟩
    have : i = b := by omega
    subst this
    exact ⟨a, hI, hx k a hI⟩
  | d + 1, i, a, k, hb, hI, hk => by
    obtain ⟨k, rfl⟩ : ∃ q, k = q + 1 := ⟨k - 1, by omega⟩
    obtain ⟨a', h1, h2⟩ := hs k i a (by omega) hI
    rw [h2]
    exact zl_inv L b I fin hx hs d (i + 1) a' k (by omega) h1 (by omega)
theorem zi_congr {α : Type} {f g : Nat → α → α} : ∀ d i a, (∀ j x, i ≤ j → j < i + d → f j x = g j x) → zi f i d a = zi g i d a
  | 0, _, _, _ => rfl
  | d + 1, i, a, h => by
    show zi f (i + 1) d (f i a) = zi g (i + 1) d (g i a)
    rw [h i a (by omega) (by omega)]
    exact zi_congr d (i + 1) _ (fun j x h1 h2 => h j x (by omega) (by omega))
theorem j_fill {f : zI} {x : Int32} {n : Nat} (hn : n ≤ 60) : ∃ f' : zI, f_J7_fill_53178 n f x = some f' ∧ (∀ i, i < n → f' i = x) := by
  obtain ⟨a', h1, h2⟩ := zl_inv (fun k i (a : zI) => f_J7_fill_53178_L5 n x (Int32.ofNat n) k (nI i) a) n (fun i a => ∀ j, j < i → a j = x) (fun a => a)
    (fun k a _ => by
      show f_J7_fill_53178_L5 n x (nI n) (k + 1) (nI n) a = some a
      rw [f_J7_fill_53178_L5, if_pos (nI_le (Nat.le_refl n) (by omega))])
    (fun k i a hi hI => by
      refine ⟨upd a i x, ?_, ?_⟩
      · intro j hj
        by_cases c : j = i
        · subst c; exact q_upd
        · rw [q_updn c]; exact hI j (by omega)
      · show f_J7_fill_53178_L5 n x (nI n) (k + 1) (nI i) a = f_J7_fill_53178_L5 n x (nI n) k (nI (i + 1)) (upd a i x)
        rw [f_J7_fill_53178_L5, if_neg (nI_ge hi (by omega)), q_in hi (by omega), q_lt, q_cl (by omega), nI_1])
    n 0 f 100 (by omega) (fun j hj => by omega) (by omega)
  refine ⟨a', ?_, h1⟩
  unfold f_J7_fill_53178
  rw [show (0 : Int32) = nI 0 from rfl, h2]
  rfl
theorem m_sheetL {g : zS} {k len : Nat} (hk : k < 4) (hl : len ≤ 60) : ∃ g' : zS, f_X4_sheet_L65 (nI k) (nI len) 100 0 g = some g' ∧ (∀ i, i < len → g' 28 (60 * k + i) = 0) ∧ (∀ p, (p < 60 * k ∨ 60 * k + 60 ≤ p) → g' 28 p = g 28 p) ∧ (∀ c, c ≠ 28 → g' c = g c) := by
  obtain ⟨a', h1, h2⟩ := zl_inv (fun q i (a : zS) => f_X4_sheet_L65 (nI k) (nI len) q (nI i) a) len (fun i a => (∀ j, j < i → a 28 (60 * k + j) = 0) ∧ (∀ p, (p < 60 * k ∨ 60 * k + 60 ≤ p) → a 28 p = g 28 p) ∧ (∀ c, c ≠ 28 → a c = g c)) (fun a => a)
    (fun q a _ => by
      show f_X4_sheet_L65 (nI k) (nI len) (q + 1) (nI len) a = some a
      rw [f_X4_sheet_L65, if_pos (nI_le (Nat.le_refl len) (by omega))])
    (fun q i a hi hI => by
      refine ⟨va_up a 28 (upd (a 28) (60 * k + i) 0), ⟨?_, ?_, ?_⟩, ?_⟩
      · intro j hj
        rw [q_up]
        by_cases c : j = i
        · subst c; exact q_upd
        · rw [q_updn (by omega)]; exact hI.1 j (by omega)
      · intro p hp
        rw [q_up, q_updn (by omega)]
        exact hI.2.1 p hp
      · intro c hc
        rw [q_upn hc]
        exact hI.2.2 c hc
      · show f_X4_sheet_L65 (nI k) (nI len) (q + 1) (nI i) a = f_X4_sheet_L65 (nI k) (nI len) q (nI (i + 1)) _
        rw [f_X4_sheet_L65, if_neg (nI_ge hi (by omega)), q_60 hk (by omega), q_in (show 60 * k + i < 240 by omega) (by decide), q_lt, q_cl (by omega), nI_1])
    len 0 g 100 (by omega) ⟨fun j hj => by omega, fun _ _ => rfl, fun _ _ => rfl⟩ (by omega)
  exact ⟨a', h2, h1⟩
theorem p_sheet {o : zS} {s : zS4} {n : zS} {t : zS} {r : zS} {g : zS} (h : zRel o s n t r g) (x1 x2 x3 : Int32) : ∃ (r0 : Int32) (o' : zS) (s' : zS4) (g' : zS), f_X3_sheet o s x1 x2 x3 = some (r0, o', s') ∧ f_X4_sheet g x1 x2 x3 = some (r0, g') ∧ zRel o' s' n t r g' := by
  unfold f_X3_sheet f_X4_sheet
  rw [q_lt]
  rcases k_sheet x1 with ⟨k, hk, rfl, hx, hm⟩ | ⟨hx, hm⟩
  · rw [hx, hm, q_b1, q_b1, if_neg (by decide), if_pos rfl]
    rcases k_lane x2 with ⟨w, hw, rfl, hx2, hm2⟩ | ⟨hx2, hm2⟩
    · rw [hx2, hm2, q_b1, q_b1, if_neg i10, if_neg i10]
      by_cases c : x3 ≤ 60
      · rw [if_pos c, if_pos c]
        by_cases c0 : 0 ≤ x3
        · rw [if_pos c0, if_pos c0, q_in hk (by decide), q_cl (by omega), q_in hk (by decide), q_lt, q_in hk (by decide), q_lt]
          rw [q_le x3 60 (by decide)] at c
          rw [q_re x3 0 (by decide)] at c0
          obtain ⟨len, hlen, rfl⟩ : ∃ j : Nat, j ≤ 60 ∧ x3 = nI j := by
            rcases q_rng x3 0 60 (by decide) with ⟨j, -, a, b⟩ | q
            · exact ⟨j, a, b⟩
            · omega
          obtain ⟨f', e1, e2⟩ := j_fill (f := s k 0) (x := 0) (n := 60) (by omega)
          unfold f_X1_begin
          rw [e1, q_b1, q_lt, q_lt, q_lt, q_lt, q_b1, q_lt]
          obtain ⟨g', a1, a2, a3, a4⟩ := m_sheetL (g := va_up (va_up g 26 (upd (g 26) k (nI len))) 27 (upd ((va_up g 26 (upd (g 26) k (nI len))) 27) k (nI w))) hk hlen
          rw [a1, q_b1]
          refine ⟨1, _, _, _, rfl, rfl, ?_⟩
          refine zRel_s (zRel_f h 0) (zSh_set h.2.2.2.2.1 (Or.inr ⟨rfl, len, w, hlen, by omega, rfl, ?_, rfl, ?_, ?_⟩) ?_ ?_ ?_) ?_
          · rw [q_upn (by decide), a4 26 (by decide), q_upn (by decide), q_up, q_upd]
          · rw [q_upn (by decide), a4 27 (by decide), q_up, q_upd]
          · intro i hi
            show f' i = g' 28 (60 * k + i)
            rw [a2 i hi]
            exact e2 i (by omega)
          · intro j _ hj
            rw [q_upn (by decide), a4 26 (by decide), q_upn (by decide), q_up, q_updn hj]
          · intro j _ hj
            rw [q_upn (by decide), a4 27 (by decide), q_up, q_updn hj, q_upn (by decide)]
          · intro j i _ hj hi
            rw [q_upn (by decide), a3 _ (by omega), q_upn (by decide), q_upn (by decide)]
          · intro q hq
            by_cases c0 : q = 0
            · subst c0
              rfl
            · rw [q_upn c0, q_upn c0, a4 q (by omega), q_upn (by omega), q_upn (by omega)]
        · rw [if_neg c0, if_neg c0]
          exact ⟨-14, _, s, _, rfl, rfl, zRel_f2 h 4 0⟩
      · rw [if_neg c, if_neg c]
        exact ⟨-2, _, s, _, rfl, rfl, zRel_f h 0⟩
    · rw [hx2, hm2, q_b1, q_b1, if_pos rfl, if_pos rfl]
      exact ⟨-2, _, s, _, rfl, rfl, zRel_f h 0⟩
  · rw [hx, hm, q_b1, q_b1, if_pos rfl, if_neg (by decide)]
    exact ⟨-1, _, s, _, rfl, rfl, zRel_f h 0⟩
