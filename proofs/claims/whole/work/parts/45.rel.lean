/-! ===== what the class's state and the reference's have in common ===== -/
def zPLt : List (List Nat) := [[], [3, 2, 1, 0, 3, 2, 1, 3, 2, 3, 2, 3, 3, 3, 3], [3, 3, 2, 2, 1, 1, 0, 3, 3, 2, 2, 3, 3, 3, 3], [3, 3, 3, 2, 2, 2, 1, 1, 0, 3, 3, 3, 2, 3, 3], [3, 3, 3, 3, 2, 2, 2, 2, 1, 1, 0, 3, 3, 3, 3], [3, 3, 3, 3, 3, 2, 2, 2, 2, 1, 1, 0, 3, 3, 3], [3, 3, 3, 3, 3, 3, 2, 2, 2, 2, 1, 1, 0, 3, 3], [3, 3, 3, 3, 3, 3, 3, 2, 2, 2, 2, 1, 1, 0, 3], [3, 3, 3, 3, 3, 3, 3, 3, 2, 2, 2, 2, 1, 1, 0]]
def zSLt : List (List Nat) := [[], [0, 0, 0, 0, 1, 1, 1, 2, 2, 3, 3, 4, 5, 6, 7], [0, 0, 0, 0, 0, 0, 0, 1, 1, 1, 1, 2, 2, 3, 3], [0, 0, 0, 0, 0, 0, 0, 0, 0, 1, 1, 1, 1, 2, 2], [0, 0, 0, 0, 0, 0, 0, 0, 0, 0, 0, 1, 1, 1, 1], [0, 0, 0, 0, 0, 0, 0, 0, 0, 0, 0, 0, 1, 1, 1], [0, 0, 0, 0, 0, 0, 0, 0, 0, 0, 0, 0, 0, 1, 1], [0, 0, 0, 0, 0, 0, 0, 0, 0, 0, 0, 0, 0, 0, 1], [0, 0, 0, 0, 0, 0, 0, 0, 0, 0, 0, 0, 0, 0, 0]]
def zpl (C t : Nat) : Nat := (zPLt.getD C []).getD t 0
def zsl (C t : Nat) : Nat := (zSLt.getD C []).getD t 0
def zlby (k v : Nat) : Nat := if k = 0 then v else if k = 1 then v / 2 else v / 2 + v
/-- a wall's data: M modules, L lamps, cut C; firsts F, sizes Z, kinds K, dead dd, levels V, homes hm -/
def zDat (M L C : Nat) (F Z K dd V hm : Nat → Nat) : Prop := M ≤ 4 ∧ F 0 = 0 ∧ (∀ m, m < M → F (m + 1) = F m + Z m ∧ 1 ≤ Z m ∧ Z m ≤ 4 ∧ K m ≤ 2 ∧ dd m ≤ 1) ∧ L = F M ∧ (∀ m j, m < M → j < Z m → hm (F m + j) = m) ∧ (∀ l, l < L → V l ≤ 9) ∧ (M = 0 → C = 0) ∧ (0 < M → 1 ≤ C ∧ C ≤ 8)
def zWal (n : zS) (M L C : Nat) (F Z K dd V hm : Nat → Nat) : Prop := n 8 0 = nI M ∧ n 9 0 = nI L ∧ n 10 0 = nI C ∧ (∀ m, m < M → n 0 m = nI (K m) ∧ n 1 m = nI (F m) ∧ n 2 m = nI (Z m) ∧ n 3 m = nI (dd m)) ∧ (∀ l, l < L → n 4 l = nI (V l) ∧ n 5 l = nI (hm l)) ∧ (0 < M → ∀ t, t < 15 → n 6 t = nI (zpl C t) ∧ n 7 t = nI (zsl C t))
def zMod (g : zS) (M L C : Nat) (F Z K dd V hm : Nat → Nat) : Prop := g 1 0 = nI M ∧ g 2 0 = nI L ∧ g 3 0 = nI C ∧ (∀ m, m < M → g 4 m = nI (K m) ∧ g 5 m = nI (F m) ∧ g 6 m = nI (Z m) ∧ g 7 m = nI (dd m)) ∧ (∀ l, l < L → g 8 l = nI (V l) ∧ g 9 l = nI (hm l))
def zB4 (n : zS) : Prop := ∀ i, i < 4 → n 3 i = 0 ∨ n 3 i = 1
/-- readings: q of them, units ru, lamps rl, lit rz -/
def zRd (r g : zS) (L q : Nat) (ru rl rz : Nat → Nat) : Prop := q ≤ 8 ∧ r 3 0 = nI q ∧ g 21 0 = nI q ∧ ∀ i, i < q → (r 0 i = nI (ru i) ∧ r 1 i = nI (rl i) ∧ r 2 i = nI (rz i)) ∧ (g 22 i = nI (ru i) ∧ g 23 i = nI (rl i) ∧ g 24 i = nI (rz i)) ∧ ru i < 15 ∧ rl i < L ∧ rz i ≤ 1
/-- a sheet: nothing, or a row of len cells of a lane -/
def zSh1 (s g : zS) (k : Nat) : Prop := (s 1 0 = 0 ∧ g 26 k = -1) ∨ (s 1 0 = 1 ∧ ∃ len lane : Nat, len ≤ 60 ∧ lane ≤ 2 ∧ s 3 0 = nI len ∧ g 26 k = nI len ∧ s 2 0 = nI lane ∧ g 27 k = nI lane ∧ ∀ i, i < len → s 0 i = g 28 (60 * k + i))
def zSh (s : zS4) (g : zS) : Prop := ∀ k, k < 4 → zSh1 (s k) g k
def zRel (o : zS) (s : zS4) (n t r g : zS) : Prop := o 5 0 = g 30 0 ∧ o 6 0 = g 0 0 ∧ zB4 n ∧ zB4 t ∧ zSh s g ∧ ∃ (M L C : Nat) (F Z K dd V hm : Nat → Nat) (q : Nat) (ru rl rz : Nat → Nat), zDat M L C F Z K dd V hm ∧ zWal n M L C F Z K dd V hm ∧ zMod g M L C F Z K dd V hm ∧ zRd r g L q ru rl rz
theorem zRel_0 : zRel (fun _ _ => 0) (fun _ _ _ => 0) (fun _ _ => 0) (fun _ _ => 0) (fun _ _ => 0) zM0 := by
  refine ⟨rfl, rfl, fun _ _ => Or.inl rfl, fun _ _ => Or.inl rfl, fun k hk => Or.inl ⟨rfl, ?_⟩, 0, 0, 0, fun _ => 0, fun _ => 0, fun _ => 0, fun _ => 0, fun _ => 0, fun _ => 0, 0, fun _ => 0, fun _ => 0, fun _ => 0, ?_, ?_, ?_, ?_⟩
  · match k, hk with
    | 0, _ => rfl
    | 1, _ => rfl
    | 2, _ => rfl
    | 3, _ => rfl
  · exact ⟨by omega, rfl, fun m h => by omega, rfl, fun m j h => by omega, fun l h => by omega, fun _ => rfl, fun h => by omega⟩
  · exact ⟨rfl, rfl, rfl, fun m h => by omega, fun l h => by omega, fun h => by omega⟩
  · exact ⟨rfl, rfl, rfl, fun m h => by omega, fun l h => by omega⟩
  · exact ⟨by omega, rfl, rfl, fun i h => by omega⟩
