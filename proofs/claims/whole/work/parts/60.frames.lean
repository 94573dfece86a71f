/-! the frame: segments of one plane and slice -/
def zSeg (a b : Nat) (n n' : zS) (t d p sl : Nat) : Prop := (∀ j, t ≤ j → j < t + d → n' a j = nI p ∧ n' b j = nI sl) ∧ (∀ j, (j < t ∨ t + d ≤ j) → n' a j = n a j ∧ n' b j = n b j) ∧ (∀ c, c ≠ a → c ≠ b → n' c = n c)
theorem zSeg_0 {a b : Nat} {n : zS} {t p sl : Nat} : zSeg a b n n t 0 p sl := ⟨fun j h1 h2 => by omega, fun _ _ => ⟨rfl, rfl⟩, fun _ _ _ => rfl⟩
theorem zSeg_1 {a b : Nat} (hab : a ≠ b) {n n' : zS} {t d p sl : Nat} (h : zSeg a b (va_up (va_up n a (upd (n a) t (nI p))) b (upd ((va_up n a (upd (n a) t (nI p))) b) t (nI sl))) n' (t + 1) d p sl) : zSeg a b n n' t (d + 1) p sl := by
  have eb : (va_up n a (upd (n a) t (nI p))) b = n b := q_upn (Ne.symm hab)
  rw [eb] at h
  obtain ⟨h1, h2, h3⟩ := h
  refine ⟨fun j a1 a2 => ?_, fun j a1 => ?_, fun c a1 a2 => ?_⟩
  · by_cases c : j = t
    · subst c
      obtain ⟨q1, q2⟩ := h2 j (by omega)
      rw [q_upn hab, q_up, q_upd] at q1
      rw [q_up, q_upd] at q2
      exact ⟨q1, q2⟩
    · exact h1 j (by omega) (by omega)
  · obtain ⟨q1, q2⟩ := h2 j (by omega)
    rw [q_upn hab, q_up, q_updn (by omega)] at q1
    rw [q_up, q_updn (by omega)] at q2
    exact ⟨q1, q2⟩
  · rw [h3 c a1 a2, q_upn a2, q_upn a1]
theorem x_seg {sl p e : Nat} (he : e ≤ 100) : ∀ (d k t u : Nat) (n : zS), e - u = d → u ≤ 100 → t + d ≤ 15 → d < k → ∃ n', f_X2_layFrame_L45 (nI sl) (nI p) (nI e) k (nI t) (nI u) n = some (nI (t + d), n') ∧ zSeg 6 7 n n' t d p sl
  | 0, k, t, u, n, hd, hu, ht, hk => by
    obtain ⟨k, rfl⟩ : ∃ q, k = q + 1 := ⟨k - 1, by omega⟩
    refine ⟨n, ?_, zSeg_0⟩
    rw [f_X2_layFrame_L45, if_pos (nI_le (by omega) (by omega))]
    rfl
  | d + 1, k, t, u, n, hd, hu, ht, hk => by
    obtain ⟨k, rfl⟩ : ∃ q, k = q + 1 := ⟨k - 1, by omega⟩
    obtain ⟨n', h1, h2⟩ := x_seg he d k (t + 1) (u + 1) (va_up (va_up n 6 (upd (n 6) t (nI p))) 7 (upd ((va_up n 6 (upd (n 6) t (nI p))) 7) t (nI sl))) (by omega) (by omega) (by omega) (by omega)
    refine ⟨n', ?_, zSeg_1 (by decide) h2⟩
    rw [f_X2_layFrame_L45, if_neg (nI_ge (by omega) (by omega)), if_neg (show ¬ 15 ≤ nI t from nI_ge (b := 15) (by omega) (by decide)), q_in (show t < 15 by omega) (by decide), q_lt, q_in (show t < 15 by omega) (by decide), q_lt, q_cl (by omega), nI_1, nI_1, h1]
    congr 2
    congr 1
    omega
theorem m_seg {sl p C : Nat} {lf : Int32} (hC : C ≤ 8) : ∀ (d k t u : Nat) (g : zS), g 3 0 = nI C → lf.toInt ≤ 100 → (d = if lf.toInt ≤ (u : Int) then 0 else min (C - u) (lf.toInt - u).toNat) → u ≤ 8 → t + d ≤ 15 → d < k → ∃ g', f_X4_frames_L31 (nI sl) (nI p) lf k (nI t) (nI u) g = some (nI (t + d), g') ∧ zSeg 17 18 g g' t d p sl
  | 0, k, t, u, g, hg, hl, hd, hu, ht, hk => by
    obtain ⟨k, rfl⟩ : ∃ q, k = q + 1 := ⟨k - 1, by omega⟩
    refine ⟨g, ?_, zSeg_0⟩
    rw [f_X4_frames_L31, hg]
    by_cases c : C ≤ u
    · rw [if_pos (nI_le c (by omega))]
      rfl
    · rw [if_neg (nI_ge (by omega) (by omega)), if_pos]
      · rfl
      · rw [q_le lf u (q_ti (by omega))]
        by_cases c2 : lf.toInt ≤ (u : Int)
        · exact c2
        · rw [if_neg c2] at hd
          omega
  | d + 1, k, t, u, g, hg, hl, hd, hu, ht, hk => by
    obtain ⟨k, rfl⟩ : ∃ q, k = q + 1 := ⟨k - 1, by omega⟩
    have c2 : ¬ lf.toInt ≤ (u : Int) := by
      intro c2
      rw [if_pos c2] at hd
      omega
    rw [if_neg c2] at hd
    obtain ⟨n', h1, h2⟩ := m_seg (sl := sl) (p := p) (lf := lf) hC d k (t + 1) (u + 1) (va_up (va_up g 17 (upd (g 17) t (nI p))) 18 (upd ((va_up g 17 (upd (g 17) t (nI p))) 18) t (nI sl))) hg hl (by split <;> omega) (by omega) (by omega) (by omega)
    refine ⟨n', ?_, zSeg_1 (by decide) h2⟩
    rw [f_X4_frames_L31, hg, if_neg (nI_ge (by omega) (by omega)), if_neg (by rw [q_le lf u (q_ti (by omega))]; exact c2), q_in (show t < 15 by omega) (by decide), q_lt, q_in (show t < 15 by omega) (by decide), q_lt, q_cl (by omega), nI_1, nI_1, h1]
    congr 2
    congr 1
    omega
/-- how many units the slice i / 4 of the plane 3 - i % 4 has; where it begins -/
def zcn (C i : Nat) : Nat := min (i / 4 * C + C) (2 ^ (3 - i % 4)) - i / 4 * C
def zof (C : Nat) : Nat → Nat
  | 0 => 0
  | i + 1 => zof C i + zcn C i
theorem zof_t : ∀ C : Fin 9, 1 ≤ C.val → (zof C.val 32 = 15 ∧ ∀ i : Fin 32, zof C.val i.val + zcn C.val i.val ≤ 15 ∧ ∀ j : Fin 15, zof C.val i.val ≤ j.val → j.val < zof C.val i.val + zcn C.val i.val → zpl C.val j.val = 3 - i.val % 4 ∧ zsl C.val j.val = i.val / 4) := by decide +kernel
/-- the frame is told up to unit T -/
def zFr (a b C T : Nat) (n n' : zS) : Prop := (∀ j, j < T → n' a j = nI (zpl C j) ∧ n' b j = nI (zsl C j)) ∧ (∀ c, c ≠ a → c ≠ b → n' c = n c)
theorem zFr_s {a b C i : Nat} {n n1 n2 : zS} (hC : 1 ≤ C ∧ C ≤ 8) (hi : i < 32) (h : zFr a b C (zof C i) n n1) (hs : zSeg a b n1 n2 (zof C i) (zcn C i) (3 - i % 4) (i / 4)) : zFr a b C (zof C (i + 1)) n n2 := by
  have q := (zof_t ⟨C, by omega⟩ hC.1).2 ⟨i, hi⟩
  refine ⟨fun j hj => ?_, fun c c1 c2 => by rw [hs.2.2 c c1 c2]; exact h.2 c c1 c2⟩
  have hj : j < zof C i + zcn C i := hj
  have q1 : zof C i + zcn C i ≤ 15 := q.1
  by_cases c : j < zof C i
  · rw [(hs.2.1 j (by omega)).1, (hs.2.1 j (by omega)).2]
    exact h.1 j c
  · have e := q.2 ⟨j, by omega⟩ (show zof C i ≤ j by omega) hj
    have e1 : zpl C j = 3 - i % 4 := e.1
    have e2 : zsl C j = i / 4 := e.2
    rw [e1, e2]
    exact hs.1 j (by omega) hj
theorem q_sh : ∀ p : Fin 4, (1 : Int32) <<< (nI p.val &&& 31) = nI (2 ^ p.val) := by decide
theorem x_pl {n n1 : zS} {C sl p : Nat} (hC : 1 ≤ C ∧ C ≤ 8) (hs : sl < 8) (hp : p < 4) (h : zFr 6 7 C (zof C (4 * sl + (3 - p))) n n1) : ∃ n2, f_X2_layFrame_L45 (nI sl) (nI p) (if (1 <<< (nI p &&& 31)) < ((nI sl * nI C) + nI C) then (1 <<< (nI p &&& 31)) else ((nI sl * nI C) + nI C)) 100 (nI (zof C (4 * sl + (3 - p)))) (nI sl * nI C) n1 = some (nI (zof C (4 * sl + (3 - p) + 1)), n2) ∧ zFr 6 7 C (zof C (4 * sl + (3 - p) + 1)) n n2 := by
  have q := (zof_t ⟨C, by omega⟩ hC.1).2 ⟨4 * sl + (3 - p), by omega⟩
  have q1 : zof C (4 * sl + (3 - p)) + zcn C (4 * sl + (3 - p)) ≤ 15 := q.1
  have e1 : (4 * sl + (3 - p)) / 4 = sl := by omega
  have e2 : 3 - (4 * sl + (3 - p)) % 4 = p := by omega
  have hcn : zcn C (4 * sl + (3 - p)) = min (sl * C + C) (2 ^ p) - sl * C := by unfold zcn; rw [e1, e2]
  have hpp : 2 ^ p ≤ 8 := by
    rcases (show p = 0 ∨ p = 1 ∨ p = 2 ∨ p = 3 by omega) with rfl | rfl | rfl | rfl <;> decide
  have hslC : sl * C ≤ 56 := by
    have := Nat.mul_le_mul (show sl ≤ 7 by omega) hC.2
    omega
  rw [q_sh ⟨p, hp⟩, pk_mul, nI_add]
  have e3 : (if nI (2 ^ p) < nI (sl * C + C) then nI (2 ^ p) else nI (sl * C + C)) = nI (min (sl * C + C) (2 ^ p)) := by
    by_cases c : 2 ^ p < sl * C + C
    · rw [if_pos (nI_lt c (by omega)), Nat.min_eq_right (by omega)]
    · rw [if_neg (nI_nlt (by omega) (by omega)), Nat.min_eq_left (by omega)]
  obtain ⟨n2, a1, a2⟩ := x_seg (sl := sl) (p := p) (e := min (sl * C + C) (2 ^ p)) (by omega) (zcn C (4 * sl + (3 - p))) 100 (zof C (4 * sl + (3 - p))) (sl * C) n1 hcn.symm (by omega) q1 (by omega)
  refine ⟨n2, ?_, zFr_s hC (by omega) h (by rw [e1, e2]; exact a2)⟩
  rw [show (⟨p, hp⟩ : Fin 4).val = p from rfl, e3, a1]
  rfl
theorem m_pl {g g1 : zS} {C sl p : Nat} (hC : 1 ≤ C ∧ C ≤ 8) (hs : sl < 8) (hp : p < 4) (hg : g1 3 0 = nI C) (h : zFr 17 18 C (zof C (4 * sl + (3 - p))) g g1) : ∃ g2, f_X4_frames_L31 (nI sl) (nI p) ((1 <<< (nI p &&& 31)) - (nI sl * (g1 3 0))) 100 (nI (zof C (4 * sl + (3 - p)))) 0 g1 = some (nI (zof C (4 * sl + (3 - p) + 1)), g2) ∧ zFr 17 18 C (zof C (4 * sl + (3 - p) + 1)) g g2 ∧ g2 3 0 = nI C := by
  have q := (zof_t ⟨C, by omega⟩ hC.1).2 ⟨4 * sl + (3 - p), by omega⟩
  have q1 : zof C (4 * sl + (3 - p)) + zcn C (4 * sl + (3 - p)) ≤ 15 := q.1
  have e1 : (4 * sl + (3 - p)) / 4 = sl := by omega
  have e2 : 3 - (4 * sl + (3 - p)) % 4 = p := by omega
  have hcn : zcn C (4 * sl + (3 - p)) = min (sl * C + C) (2 ^ p) - sl * C := by unfold zcn; rw [e1, e2]
  have hpp : 2 ^ p ≤ 8 := by
    rcases (show p = 0 ∨ p = 1 ∨ p = 2 ∨ p = 3 by omega) with rfl | rfl | rfl | rfl <;> decide
  have hslC : sl * C ≤ 56 := by
    have := Nat.mul_le_mul (show sl ≤ 7 by omega) hC.2
    omega
  rw [hg, q_sh ⟨p, hp⟩, pk_mul]
  have hlf : (nI (2 ^ p) - nI (sl * C)).toInt = (2 ^ p : Nat) - (sl * C : Nat) := pk_sub_toInt (by omega) (by omega)
  obtain ⟨g2, a1, a2⟩ := m_seg (sl := sl) (p := p) (C := C) (lf := nI (2 ^ p) - nI (sl * C)) hC.2 (zcn C (4 * sl + (3 - p))) 100 (zof C (4 * sl + (3 - p))) 0 g1 hg (by rw [hlf]; omega) (by rw [hlf, hcn]; split <;> omega) (by omega) q1 (by omega)
  refine ⟨g2, a1, zFr_s hC (by omega) h (by rw [e1, e2]; exact a2), ?_⟩
  rw [a2.2.2 3 (by decide) (by decide)]
  exact hg
theorem q_d3 : (nI 3 : Int32) + (-1) = nI 2 := by decide
theorem q_d2 : (nI 2 : Int32) + (-1) = nI 1 := by decide
theorem q_d1 : (nI 1 : Int32) + (-1) = nI 0 := by decide
theorem x_sl {n n1 : zS} {C sl : Nat} (hC : 1 ≤ C ∧ C ≤ 8) (hs : sl < 8) (h : zFr 6 7 C (zof C (4 * sl)) n n1) : ∃ n2, f_X2_layFrame_L18 (nI C) (nI sl) 100 (nI (zof C (4 * sl))) 3 n1 = some (nI (zof C (4 * (sl + 1))), n2) ∧ zFr 6 7 C (zof C (4 * (sl + 1))) n n2 := by
  obtain ⟨m1, a1, b1⟩ := x_pl (p := 3) hC hs (by decide) h
  obtain ⟨m2, a2, b2⟩ := x_pl (p := 2) hC hs (by decide) b1
  obtain ⟨m3, a3, b3⟩ := x_pl (p := 1) hC hs (by decide) b2
  obtain ⟨m4, a4, b4⟩ := x_pl (p := 0) hC hs (by decide) b3
  refine ⟨m4, ?_, b4⟩
  rw [show (3 : Int32) = nI 3 from rfl]
  rw [f_X2_layFrame_L18, if_neg (by decide)]
  rw [show zof C (4 * sl) = zof C (4 * sl + (3 - 3)) from rfl, a1, q_b2, q_d3]
  rw [f_X2_layFrame_L18, if_neg (by decide)]
  rw [show zof C (4 * sl + (3 - 3) + 1) = zof C (4 * sl + (3 - 2)) from rfl, a2, q_b2, q_d2]
  rw [f_X2_layFrame_L18, if_neg (by decide)]
  rw [show zof C (4 * sl + (3 - 2) + 1) = zof C (4 * sl + (3 - 1)) from rfl, a3, q_b2, q_d1]
  rw [f_X2_layFrame_L18, if_neg (by decide)]
  rw [show zof C (4 * sl + (3 - 1) + 1) = zof C (4 * sl + (3 - 0)) from rfl, a4, q_b2]
  rw [f_X2_layFrame_L18, if_pos (by decide)]
  rfl
theorem m_sl {g g1 : zS} {C sl : Nat} (hC : 1 ≤ C ∧ C ≤ 8) (hs : sl < 8) (hg : g1 3 0 = nI C) (h : zFr 17 18 C (zof C (4 * sl)) g g1) : ∃ g2, f_X4_frames_L12 (nI sl) 100 (nI (zof C (4 * sl))) 3 g1 = some (nI (zof C (4 * (sl + 1))), g2) ∧ zFr 17 18 C (zof C (4 * (sl + 1))) g g2 ∧ g2 3 0 = nI C := by
  obtain ⟨m1, a1, b1, c1⟩ := m_pl (p := 3) hC hs (by decide) hg h
  obtain ⟨m2, a2, b2, c2⟩ := m_pl (p := 2) hC hs (by decide) c1 b1
  obtain ⟨m3, a3, b3, c3⟩ := m_pl (p := 1) hC hs (by decide) c2 b2
  obtain ⟨m4, a4, b4, c4⟩ := m_pl (p := 0) hC hs (by decide) c3 b3
  refine ⟨m4, ?_, b4, c4⟩
  rw [show (3 : Int32) = nI 3 from rfl]
  rw [f_X4_frames_L12, if_neg (by decide)]
  rw [show zof C (4 * sl) = zof C (4 * sl + (3 - 3)) from rfl, a1, q_b2, q_d3]
  rw [f_X4_frames_L12, if_neg (by decide)]
  rw [show zof C (4 * sl + (3 - 3) + 1) = zof C (4 * sl + (3 - 2)) from rfl, a2, q_b2, q_d2]
  rw [f_X4_frames_L12, if_neg (by decide)]
  rw [show zof C (4 * sl + (3 - 2) + 1) = zof C (4 * sl + (3 - 1)) from rfl, a3, q_b2, q_d1]
  rw [f_X4_frames_L12, if_neg (by decide)]
  rw [show zof C (4 * sl + (3 - 1) + 1) = zof C (4 * sl + (3 - 0)) from rfl, a4, q_b2]
  rw [f_X4_frames_L12, if_pos (by decide)]
  rfl
theorem x_frame {n : zS} {C : Nat} (hC : 1 ≤ C ∧ C ≤ 8) : ∃ n', f_X2_layFrame n (nI C) = some n' ∧ (∀ t, t < 15 → n' 6 t = nI (zpl C t) ∧ n' 7 t = nI (zsl C t)) ∧ n' 10 0 = nI C ∧ (∀ c, c ≠ 6 → c ≠ 7 → c ≠ 10 → n' c = n c) := by
  obtain ⟨a', h1, h2⟩ := zl_inv (fun k i (a : zS) => f_X2_layFrame_L9 (nI C) k (nI (zof C (4 * i))) (nI i) a) 8 (fun i a => zFr 6 7 C (zof C (4 * i)) (va_up n 10 (fun _ => nI C)) a) (fun a => a)
    (fun k a _ => by
      show f_X2_layFrame_L9 (nI C) (k + 1) (nI (zof C (4 * 8))) (nI 8) a = some a
      rw [f_X2_layFrame_L9, if_pos (by decide)])
    (fun k i a hi hI => by
      obtain ⟨n2, b1, b2⟩ := x_sl hC hi hI
      refine ⟨n2, b2, ?_⟩
      show f_X2_layFrame_L9 (nI C) (k + 1) (nI (zof C (4 * i))) (nI i) a = f_X2_layFrame_L9 (nI C) k (nI (zof C (4 * (i + 1)))) (nI (i + 1)) n2
      rw [f_X2_layFrame_L9, if_neg (show ¬ 8 ≤ nI i from nI_ge (b := 8) hi (by decide)), b1, q_b2, nI_1])
    8 0 (va_up n 10 (fun _ => nI C)) 100 (by omega) ⟨fun j hj => by
      have : zof C (4 * 0) = 0 := rfl
      omega, fun _ _ _ => rfl⟩ (by omega)
  have e15 : zof C (4 * 8) = 15 := (zof_t ⟨C, by omega⟩ hC.1).1
  rw [e15] at h1
  refine ⟨a', ?_, h1.1, ?_, ?_⟩
  · unfold f_X2_layFrame
    rw [q_lt, show f_X2_layFrame_L9 (nI C) 100 0 0 (va_up n 10 (fun _ => nI C)) = f_X2_layFrame_L9 (nI C) 100 (nI (zof C (4 * 0))) (nI 0) (va_up n 10 (fun _ => nI C)) from rfl, h2]
    rfl
  · rw [h1.2 10 (by decide) (by decide)]
    rfl
  · intro c c1 c2 c3
    rw [h1.2 c c1 c2, q_upn c3]
theorem m_frame {g : zS} {C : Nat} (hC : 1 ≤ C ∧ C ≤ 8) (hg : g 3 0 = nI C) : ∃ g', f_X4_frames g = some g' ∧ (∀ t, t < 15 → g' 17 t = nI (zpl C t) ∧ g' 18 t = nI (zsl C t)) ∧ (∀ c, c ≠ 17 → c ≠ 18 → g' c = g c) := by
  obtain ⟨a', h1, h2⟩ := zl_inv (fun k i (a : zS) => f_X4_frames_L4 k (nI (zof C (4 * i))) (nI i) a) 8 (fun i a => zFr 17 18 C (zof C (4 * i)) g a ∧ a 3 0 = nI C) (fun a => a)
    (fun k a _ => by
      show f_X4_frames_L4 (k + 1) (nI (zof C (4 * 8))) (nI 8) a = some a
      rw [f_X4_frames_L4, if_pos (by decide)])
    (fun k i a hi hI => by
      obtain ⟨n2, b1, b2, b3⟩ := m_sl hC hi hI.2 hI.1
      refine ⟨n2, ⟨b2, b3⟩, ?_⟩
      show f_X4_frames_L4 (k + 1) (nI (zof C (4 * i))) (nI i) a = f_X4_frames_L4 k (nI (zof C (4 * (i + 1)))) (nI (i + 1)) n2
      rw [f_X4_frames_L4, if_neg (show ¬ 8 ≤ nI i from nI_ge (b := 8) hi (by decide)), b1, q_b2, nI_1])
    8 0 g 100 (by omega) ⟨⟨fun j hj => by
      have : zof C (4 * 0) = 0 := rfl
      omega, fun _ _ _ => rfl⟩, hg⟩ (by omega)
  have e15 : zof C (4 * 8) = 15 := (zof_t ⟨C, by omega⟩ hC.1).1
  rw [e15] at h1
  refine ⟨a', ?_, h1.1.1, h1.1.2⟩
  unfold f_X4_frames
  rw [show f_X4_frames_L4 100 0 0 g = f_X4_frames_L4 100 (nI (zof C (4 * 0))) (nI 0) g from rfl, h2]
  rfl
