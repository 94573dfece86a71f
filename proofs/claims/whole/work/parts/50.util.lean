/-! ===== the pure part: words for values ===== -/
theorem q_b1 {A β : Type} {a : A} {k : A → Option β} : zq_b1 (some a) k = k a := rfl
theorem q_b2 {A B β : Type} {a : A} {b : B} {k : A → B → Option β} : zq_b2 (some (a, b)) k = k a b := rfl
theorem q_b3 {A B C β : Type} {a : A} {b : B} {c : C} {k : A → B → C → Option β} : zq_b3 (some (a, b, c)) k = k a b c := rfl
theorem q_b4 {A B C D β : Type} {a : A} {b : B} {c : C} {d : D} {k : A → B → C → D → Option β} : zq_b4 (some (a, b, c, d)) k = k a b c d := rfl
theorem q_lt {α β : Type} {a : α} {k : α → Option β} : zq_lt a k = k a := rfl
theorem q_rd {α β : Type} {a : Nat → α} {n i : Nat} {k : α → Option β} (h : i < n) (hn : n < 2 ^ 31) : zq_rd a n (nI i) k = k (a i) := by
  have c : ¬ (nI i < 0 ∨ n ≤ (nI i).toNatClampNeg) := nI_in h hn
  unfold zq_rd
  rw [if_pos c, nI_clamp (by omega)]
theorem q_in {β : Type} {n i : Nat} {k : Option β} (h : i < n) (hn : n < 2 ^ 31) : zq_in n (nI i) k = k := by
  have c : ¬ (nI i < 0 ∨ n ≤ (nI i).toNatClampNeg) := nI_in h hn
  unfold zq_in
  rw [if_pos c]
theorem q_z0 {β : Type} {k : Option β} : zq_z 0 k = k := rfl
theorem q_z1 {β : Type} {k : Option β} : zq_z 1 k = k := rfl
theorem q_up {α : Type} {f : Nat → α} {k : Nat} {v : α} : va_up f k v k = v := if_pos rfl
theorem q_upn {α : Type} {f : Nat → α} {k j : Nat} {v : α} (h : j ≠ k) : va_up f k v j = f j := if_neg h
theorem q_cl {j : Nat} (h : j < 2 ^ 31) : Int32.toNatClampNeg (nI j) = j := nI_clamp h
theorem q_ix (x : Int32) (n : Nat) (hn : n < 2 ^ 31) : (∃ j : Nat, j < n ∧ x = nI j) ∨ (x < 0 ∨ nI n ≤ x) := by
  rcases pk_ix x hn with h | h | h
  · exact Or.inr (Or.inl h)
  · exact Or.inr (Or.inr h)
  · exact Or.inl h
theorem q_out {x : Int32} {n : Nat} (hn : n < 2 ^ 31) (h : x < 0 ∨ nI n ≤ x) : x.toInt < 0 ∨ (n : Int) ≤ x.toInt := by
  rcases h with h | h
  · left; have := Int32.lt_iff_toInt_lt.mp h; simpa using this
  · right; have := Int32.le_iff_toInt_le.mp h; rwa [nI_toInt hn] at this
theorem q_ti {j : Nat} (h : j < 2 ^ 31) : (nI j).toInt = (j : Int) := nI_toInt h
theorem q_in64 (v l h : Int64) : f_X4_in v l h = some (if l.toInt ≤ v.toInt ∧ v.toInt ≤ h.toInt then 1 else 0) := by
  unfold f_X4_in lg_cmp
  simp only [Int64.lt_iff_toInt_lt]
  by_cases c1 : l.toInt < v.toInt
  · rw [if_pos c1, if_neg (by decide)]
    by_cases c2 : h.toInt < v.toInt
    · rw [if_pos c2, if_pos (by decide), if_neg (by omega)]
    · rw [if_neg c2]
      by_cases c3 : v = h
      · rw [if_pos c3, if_neg (by decide), if_pos (by omega)]
      · rw [if_neg c3, if_neg (by decide), if_pos (by omega)]
  · rw [if_neg c1]
    by_cases c0 : v = l
    · rw [if_pos c0, if_neg (by decide)]
      subst c0
      by_cases c2 : h.toInt < v.toInt
      · rw [if_pos c2, if_pos (by decide), if_neg (by omega)]
      · rw [if_neg c2]
        by_cases c3 : v = h
        · rw [if_pos c3, if_neg (by decide), if_pos (by omega)]
        · rw [if_neg c3, if_neg (by decide), if_pos (by omega)]
    · rw [if_neg c0, if_pos (by decide), if_neg]
      intro hc
      exact c0 (Int64.toInt_inj.mp (by omega))
theorem q_inI (x : Int32) (l h : Int64) : f_X4_in (Int32.toInt64 x) l h = some (if l.toInt ≤ x.toInt ∧ x.toInt ≤ h.toInt then 1 else 0) := by
  rw [q_in64, Int32.toInt_toInt64]
