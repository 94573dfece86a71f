/-! ===== binds by how many things come ===== -/
abbrev zI : Type := Nat → Int32
def zq_b2 {A B β : Type} (o : Option (A × B)) (k : A → B → Option β) : Option β := match o with | none => none | some (a0, a1) => k a0 a1
theorem zq_b2_s {A B β : Type} {o : Option (A × B)} {k : A → B → Option β} {x : β} (h : zq_b2 o k = some x) : ∃ a0 a1, o = some (a0, a1) ∧ k a0 a1 = some x := by
  cases o with
  | none => cases h
  | some z => obtain ⟨a0, a1⟩ := z; exact ⟨a0, a1, rfl, h⟩
def zq_b3 {A B C β : Type} (o : Option (A × B × C)) (k : A → B → C → Option β) : Option β := match o with | none => none | some (a0, a1, a2) => k a0 a1 a2
theorem zq_b3_s {A B C β : Type} {o : Option (A × B × C)} {k : A → B → C → Option β} {x : β} (h : zq_b3 o k = some x) : ∃ a0 a1 a2, o = some (a0, a1, a2) ∧ k a0 a1 a2 = some x := by
  cases o with
  | none => cases h
  | some z => obtain ⟨a0, a1, a2⟩ := z; exact ⟨a0, a1, a2, rfl, h⟩
def zq_b4 {A B C D β : Type} (o : Option (A × B × C × D)) (k : A → B → C → D → Option β) : Option β := match o with | none => none | some (a0, a1, a2, a3) => k a0 a1 a2 a3
theorem zq_b4_s {A B C D β : Type} {o : Option (A × B × C × D)} {k : A → B → C → D → Option β} {x : β} (h : zq_b4 o k = some x) : ∃ a0 a1 a2 a3, o = some (a0, a1, a2, a3) ∧ k a0 a1 a2 a3 = some x := by
  cases o with
  | none => cases h
  | some z => obtain ⟨a0, a1, a2, a3⟩ := z; exact ⟨a0, a1, a2, a3, rfl, h⟩
def zq_b5 {A B C D E β : Type} (o : Option (A × B × C × D × E)) (k : A → B → C → D → E → Option β) : Option β := match o with | none => none | some (a0, a1, a2, a3, a4) => k a0 a1 a2 a3 a4
theorem zq_b5_s {A B C D E β : Type} {o : Option (A × B × C × D × E)} {k : A → B → C → D → E → Option β} {x : β} (h : zq_b5 o k = some x) : ∃ a0 a1 a2 a3 a4, o = some (a0, a1, a2, a3, a4) ∧ k a0 a1 a2 a3 a4 = some x := by
  cases o with
  | none => cases h
  | some z => obtain ⟨a0, a1, a2, a3, a4⟩ := z; exact ⟨a0, a1, a2, a3, a4, rfl, h⟩
def zq_b6 {A B C D E F β : Type} (o : Option (A × B × C × D × E × F)) (k : A → B → C → D → E → F → Option β) : Option β := match o with | none => none | some (a0, a1, a2, a3, a4, a5) => k a0 a1 a2 a3 a4 a5
theorem zq_b6_s {A B C D E F β : Type} {o : Option (A × B × C × D × E × F)} {k : A → B → C → D → E → F → Option β} {x : β} (h : zq_b6 o k = some x) : ∃ a0 a1 a2 a3 a4 a5, o = some (a0, a1, a2, a3, a4, a5) ∧ k a0 a1 a2 a3 a4 a5 = some x := by
  cases o with
  | none => cases h
  | some z => obtain ⟨a0, a1, a2, a3, a4, a5⟩ := z; exact ⟨a0, a1, a2, a3, a4, a5, rfl, h⟩
def zq_b7 {A B C D E F G β : Type} (o : Option (A × B × C × D × E × F × G)) (k : A → B → C → D → E → F → G → Option β) : Option β := match o with | none => none | some (a0, a1, a2, a3, a4, a5, a6) => k a0 a1 a2 a3 a4 a5 a6
theorem zq_b7_s {A B C D E F G β : Type} {o : Option (A × B × C × D × E × F × G)} {k : A → B → C → D → E → F → G → Option β} {x : β} (h : zq_b7 o k = some x) : ∃ a0 a1 a2 a3 a4 a5 a6, o = some (a0, a1, a2, a3, a4, a5, a6) ∧ k a0 a1 a2 a3 a4 a5 a6 = some x := by
  cases o with
  | none => cases h
  | some z => obtain ⟨a0, a1, a2, a3, a4, a5, a6⟩ := z; exact ⟨a0, a1, a2, a3, a4, a5, a6, rfl, h⟩
def zq_b8 {A B C D E F G H β : Type} (o : Option (A × B × C × D × E × F × G × H)) (k : A → B → C → D → E → F → G → H → Option β) : Option β := match o with | none => none | some (a0, a1, a2, a3, a4, a5, a6, a7) => k a0 a1 a2 a3 a4 a5 a6 a7
theorem zq_b8_s {A B C D E F G H β : Type} {o : Option (A × B × C × D × E × F × G × H)} {k : A → B → C → D → E → F → G → H → Option β} {x : β} (h : zq_b8 o k = some x) : ∃ a0 a1 a2 a3 a4 a5 a6 a7, o = some (a0, a1, a2, a3, a4, a5, a6, a7) ∧ k a0 a1 a2 a3 a4 a5 a6 a7 = some x := by
  cases o with
  | none => cases h
  | some z => obtain ⟨a0, a1, a2, a3, a4, a5, a6, a7⟩ := z; exact ⟨a0, a1, a2, a3, a4, a5, a6, a7, rfl, h⟩
theorem zq_j2 {A B : Type} {a0 b0 : A} {a1 b1 : B} (h : some (a0, a1) = some (b0, b1)) : a0 = b0 ∧ a1 = b1 := by
  simpa using h
theorem zq_j3 {A B C : Type} {a0 b0 : A} {a1 b1 : B} {a2 b2 : C} (h : some (a0, a1, a2) = some (b0, b1, b2)) : a0 = b0 ∧ a1 = b1 ∧ a2 = b2 := by
  simpa using h
theorem zq_j4 {A B C D : Type} {a0 b0 : A} {a1 b1 : B} {a2 b2 : C} {a3 b3 : D} (h : some (a0, a1, a2, a3) = some (b0, b1, b2, b3)) : a0 = b0 ∧ a1 = b1 ∧ a2 = b2 ∧ a3 = b3 := by
  simpa using h
theorem zq_j5 {A B C D E : Type} {a0 b0 : A} {a1 b1 : B} {a2 b2 : C} {a3 b3 : D} {a4 b4 : E} (h : some (a0, a1, a2, a3, a4) = some (b0, b1, b2, b3, b4)) : a0 = b0 ∧ a1 = b1 ∧ a2 = b2 ∧ a3 = b3 ∧ a4 = b4 := by
  simpa using h
theorem zq_j6 {A B C D E F : Type} {a0 b0 : A} {a1 b1 : B} {a2 b2 : C} {a3 b3 : D} {a4 b4 : E} {a5 b5 : F} (h : some (a0, a1, a2, a3, a4, a5) = some (b0, b1, b2, b3, b4, b5)) : a0 = b0 ∧ a1 = b1 ∧ a2 = b2 ∧ a3 = b3 ∧ a4 = b4 ∧ a5 = b5 := by
  simpa using h
theorem zq_j7 {A B C D E F G : Type} {a0 b0 : A} {a1 b1 : B} {a2 b2 : C} {a3 b3 : D} {a4 b4 : E} {a5 b5 : F} {a6 b6 : G} (h : some (a0, a1, a2, a3, a4, a5, a6) = some (b0, b1, b2, b3, b4, b5, b6)) : a0 = b0 ∧ a1 = b1 ∧ a2 = b2 ∧ a3 = b3 ∧ a4 = b4 ∧ a5 = b5 ∧ a6 = b6 := by
  simpa using h
def zq_s1_1 {A P β : Type} (o : Option ((A) ⊕ (P))) (k : A → Option β) (j : P → Option β) : Option β := match o with | none => none | some (.inl a0) => k a0 | some (.inr b0) => j b0
theorem zq_s1_1_s {A P β : Type} {o : Option ((A) ⊕ (P))} {k : A → Option β} {j : P → Option β} {x : β} (h : zq_s1_1 o k j = some x) : (∃ a0, o = some (.inl a0) ∧ k a0 = some x) ∨ (∃ b0, o = some (.inr b0) ∧ j b0 = some x) := by
  cases o with
  | none => cases h
  | some z =>
    cases z with
    | inl a0 => exact Or.inl ⟨a0, rfl, h⟩
    | inr b0 => exact Or.inr ⟨b0, rfl, h⟩
def zq_s1_2 {A P Q β : Type} (o : Option ((A) ⊕ (P × Q))) (k : A → Option β) (j : P → Q → Option β) : Option β := match o with | none => none | some (.inl a0) => k a0 | some (.inr (b0, b1)) => j b0 b1
theorem zq_s1_2_s {A P Q β : Type} {o : Option ((A) ⊕ (P × Q))} {k : A → Option β} {j : P → Q → Option β} {x : β} (h : zq_s1_2 o k j = some x) : (∃ a0, o = some (.inl a0) ∧ k a0 = some x) ∨ (∃ b0 b1, o = some (.inr (b0, b1)) ∧ j b0 b1 = some x) := by
  cases o with
  | none => cases h
  | some z =>
    cases z with
    | inl a0 => exact Or.inl ⟨a0, rfl, h⟩
    | inr z => obtain ⟨b0, b1⟩ := z; exact Or.inr ⟨b0, b1, rfl, h⟩
def zq_s1_3 {A P Q R β : Type} (o : Option ((A) ⊕ (P × Q × R))) (k : A → Option β) (j : P → Q → R → Option β) : Option β := match o with | none => none | some (.inl a0) => k a0 | some (.inr (b0, b1, b2)) => j b0 b1 b2
theorem zq_s1_3_s {A P Q R β : Type} {o : Option ((A) ⊕ (P × Q × R))} {k : A → Option β} {j : P → Q → R → Option β} {x : β} (h : zq_s1_3 o k j = some x) : (∃ a0, o = some (.inl a0) ∧ k a0 = some x) ∨ (∃ b0 b1 b2, o = some (.inr (b0, b1, b2)) ∧ j b0 b1 b2 = some x) := by
  cases o with
  | none => cases h
  | some z =>
    cases z with
    | inl a0 => exact Or.inl ⟨a0, rfl, h⟩
    | inr z => obtain ⟨b0, b1, b2⟩ := z; exact Or.inr ⟨b0, b1, b2, rfl, h⟩
def zq_s2_1 {A B P β : Type} (o : Option ((A × B) ⊕ (P))) (k : A → B → Option β) (j : P → Option β) : Option β := match o with | none => none | some (.inl (a0, a1)) => k a0 a1 | some (.inr b0) => j b0
theorem zq_s2_1_s {A B P β : Type} {o : Option ((A × B) ⊕ (P))} {k : A → B → Option β} {j : P → Option β} {x : β} (h : zq_s2_1 o k j = some x) : (∃ a0 a1, o = some (.inl (a0, a1)) ∧ k a0 a1 = some x) ∨ (∃ b0, o = some (.inr b0) ∧ j b0 = some x) := by
  cases o with
  | none => cases h
  | some z =>
    cases z with
    | inl z => obtain ⟨a0, a1⟩ := z; exact Or.inl ⟨a0, a1, rfl, h⟩
    | inr b0 => exact Or.inr ⟨b0, rfl, h⟩
def zq_s2_2 {A B P Q β : Type} (o : Option ((A × B) ⊕ (P × Q))) (k : A → B → Option β) (j : P → Q → Option β) : Option β := match o with | none => none | some (.inl (a0, a1)) => k a0 a1 | some (.inr (b0, b1)) => j b0 b1
theorem zq_s2_2_s {A B P Q β : Type} {o : Option ((A × B) ⊕ (P × Q))} {k : A → B → Option β} {j : P → Q → Option β} {x : β} (h : zq_s2_2 o k j = some x) : (∃ a0 a1, o = some (.inl (a0, a1)) ∧ k a0 a1 = some x) ∨ (∃ b0 b1, o = some (.inr (b0, b1)) ∧ j b0 b1 = some x) := by
  cases o with
  | none => cases h
  | some z =>
    cases z with
    | inl z => obtain ⟨a0, a1⟩ := z; exact Or.inl ⟨a0, a1, rfl, h⟩
    | inr z => obtain ⟨b0, b1⟩ := z; exact Or.inr ⟨b0, b1, rfl, h⟩
def zq_s2_3 {A B P Q R β : Type} (o : Option ((A × B) ⊕ (P × Q × R))) (k : A → B → Option β) (j : P → Q → R → Option β) : Option β := match o with | none => none | some (.inl (a0, a1)) => k a0 a1 | some (.inr (b0, b1, b2)) => j b0 b1 b2
theorem zq_s2_3_s {A B P Q R β : Type} {o : Option ((A × B) ⊕ (P × Q × R))} {k : A → B → Option β} {j : P → Q → R → Option β} {x : β} (h : zq_s2_3 o k j = some x) : (∃ a0 a1, o = some (.inl (a0, a1)) ∧ k a0 a1 = some x) ∨ (∃ b0 b1 b2, o = some (.inr (b0, b1, b2)) ∧ j b0 b1 b2 = some x) := by
  cases o with
  | none => cases h
  | some z =>
    cases z with
    | inl z => obtain ⟨a0, a1⟩ := z; exact Or.inl ⟨a0, a1, rfl, h⟩
    | inr z => obtain ⟨b0, b1, b2⟩ := z; exact Or.inr ⟨b0, b1, b2, rfl, h⟩
def zq_s3_1 {A B C P β : Type} (o : Option ((A × B × C) ⊕ (P))) (k : A → B → C → Option β) (j : P → Option β) : Option β := match o with | none => none | some (.inl (a0, a1, a2)) => k a0 a1 a2 | some (.inr b0) => j b0
theorem zq_s3_1_s {A B C P β : Type} {o : Option ((A × B × C) ⊕ (P))} {k : A → B → C → Option β} {j : P → Option β} {x : β} (h : zq_s3_1 o k j = some x) : (∃ a0 a1 a2, o = some (.inl (a0, a1, a2)) ∧ k a0 a1 a2 = some x) ∨ (∃ b0, o = some (.inr b0) ∧ j b0 = some x) := by
  cases o with
  | none => cases h
  | some z =>
    cases z with
    | inl z => obtain ⟨a0, a1, a2⟩ := z; exact Or.inl ⟨a0, a1, a2, rfl, h⟩
    | inr b0 => exact Or.inr ⟨b0, rfl, h⟩
def zq_s3_2 {A B C P Q β : Type} (o : Option ((A × B × C) ⊕ (P × Q))) (k : A → B → C → Option β) (j : P → Q → Option β) : Option β := match o with | none => none | some (.inl (a0, a1, a2)) => k a0 a1 a2 | some (.inr (b0, b1)) => j b0 b1
theorem zq_s3_2_s {A B C P Q β : Type} {o : Option ((A × B × C) ⊕ (P × Q))} {k : A → B → C → Option β} {j : P → Q → Option β} {x : β} (h : zq_s3_2 o k j = some x) : (∃ a0 a1 a2, o = some (.inl (a0, a1, a2)) ∧ k a0 a1 a2 = some x) ∨ (∃ b0 b1, o = some (.inr (b0, b1)) ∧ j b0 b1 = some x) := by
  cases o with
  | none => cases h
  | some z =>
    cases z with
    | inl z => obtain ⟨a0, a1, a2⟩ := z; exact Or.inl ⟨a0, a1, a2, rfl, h⟩
    | inr z => obtain ⟨b0, b1⟩ := z; exact Or.inr ⟨b0, b1, rfl, h⟩
def zq_s3_3 {A B C P Q R β : Type} (o : Option ((A × B × C) ⊕ (P × Q × R))) (k : A → B → C → Option β) (j : P → Q → R → Option β) : Option β := match o with | none => none | some (.inl (a0, a1, a2)) => k a0 a1 a2 | some (.inr (b0, b1, b2)) => j b0 b1 b2
theorem zq_s3_3_s {A B C P Q R β : Type} {o : Option ((A × B × C) ⊕ (P × Q × R))} {k : A → B → C → Option β} {j : P → Q → R → Option β} {x : β} (h : zq_s3_3 o k j = some x) : (∃ a0 a1 a2, o = some (.inl (a0, a1, a2)) ∧ k a0 a1 a2 = some x) ∨ (∃ b0 b1 b2, o = some (.inr (b0, b1, b2)) ∧ j b0 b1 b2 = some x) := by
  cases o with
  | none => cases h
  | some z =>
    cases z with
    | inl z => obtain ⟨a0, a1, a2⟩ := z; exact Or.inl ⟨a0, a1, a2, rfl, h⟩
    | inr z => obtain ⟨b0, b1, b2⟩ := z; exact Or.inr ⟨b0, b1, b2, rfl, h⟩
theorem zq_el1 {A Z : Type} {a0 : A} {Y : A → Prop} (h : Y a0) : ∀ (c0 : A), (Sum.inl a0 : (A) ⊕ Z) = Sum.inl c0 → Y c0 := by
  intro c0 e
  cases e
  exact h
theorem zq_nl1 {A Z : Type} {z : Z} {Y : A → Prop} : ∀ (c0 : A), (Sum.inr z : (A) ⊕ Z) = Sum.inl c0 → Y c0 := by
  intro c0 e
  cases e
theorem zq_er1 {A Z : Type} {a0 : A} {Y : A → Prop} (h : Y a0) : ∀ (c0 : A), (Sum.inr a0 : Z ⊕ (A)) = Sum.inr c0 → Y c0 := by
  intro c0 e
  cases e
  exact h
theorem zq_nr1 {A Z : Type} {z : Z} {Y : A → Prop} : ∀ (c0 : A), (Sum.inl z : Z ⊕ (A)) = Sum.inr c0 → Y c0 := by
  intro c0 e
  cases e
theorem zq_el2 {A B Z : Type} {a0 : A} {a1 : B} {Y : A → B → Prop} (h : Y a0 a1) : ∀ (c0 : A) (c1 : B), (Sum.inl (a0, a1) : (A × B) ⊕ Z) = Sum.inl (c0, c1) → Y c0 c1 := by
  intro c0 c1 e
  cases e
  exact h
theorem zq_nl2 {A B Z : Type} {z : Z} {Y : A → B → Prop} : ∀ (c0 : A) (c1 : B), (Sum.inr z : (A × B) ⊕ Z) = Sum.inl (c0, c1) → Y c0 c1 := by
  intro c0 c1 e
  cases e
theorem zq_er2 {A B Z : Type} {a0 : A} {a1 : B} {Y : A → B → Prop} (h : Y a0 a1) : ∀ (c0 : A) (c1 : B), (Sum.inr (a0, a1) : Z ⊕ (A × B)) = Sum.inr (c0, c1) → Y c0 c1 := by
  intro c0 c1 e
  cases e
  exact h
theorem zq_nr2 {A B Z : Type} {z : Z} {Y : A → B → Prop} : ∀ (c0 : A) (c1 : B), (Sum.inl z : Z ⊕ (A × B)) = Sum.inr (c0, c1) → Y c0 c1 := by
  intro c0 c1 e
  cases e
theorem zq_el3 {A B C Z : Type} {a0 : A} {a1 : B} {a2 : C} {Y : A → B → C → Prop} (h : Y a0 a1 a2) : ∀ (c0 : A) (c1 : B) (c2 : C), (Sum.inl (a0, a1, a2) : (A × B × C) ⊕ Z) = Sum.inl (c0, c1, c2) → Y c0 c1 c2 := by
  intro c0 c1 c2 e
  cases e
  exact h
theorem zq_nl3 {A B C Z : Type} {z : Z} {Y : A → B → C → Prop} : ∀ (c0 : A) (c1 : B) (c2 : C), (Sum.inr z : (A × B × C) ⊕ Z) = Sum.inl (c0, c1, c2) → Y c0 c1 c2 := by
  intro c0 c1 c2 e
  cases e
theorem zq_er3 {A B C Z : Type} {a0 : A} {a1 : B} {a2 : C} {Y : A → B → C → Prop} (h : Y a0 a1 a2) : ∀ (c0 : A) (c1 : B) (c2 : C), (Sum.inr (a0, a1, a2) : Z ⊕ (A × B × C)) = Sum.inr (c0, c1, c2) → Y c0 c1 c2 := by
  intro c0 c1 c2 e
  cases e
  exact h
theorem zq_nr3 {A B C Z : Type} {z : Z} {Y : A → B → C → Prop} : ∀ (c0 : A) (c1 : B) (c2 : C), (Sum.inl z : Z ⊕ (A × B × C)) = Sum.inr (c0, c1, c2) → Y c0 c1 c2 := by
  intro c0 c1 c2 e
  cases e
