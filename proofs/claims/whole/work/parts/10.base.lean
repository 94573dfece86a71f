/-! ===== my own words: partial functions, contracts over a fixed world, calls ===== -/
theorem it_t {α : Type} {c : Prop} [Decidable c] {a b x : α} (h : c) (hf : (if c then a else b) = x) : a = x := (if_pos h).symm.trans hf
theorem it_f {α : Type} {c : Prop} [Decidable c] {a b x : α} (h : ¬ c) (hf : (if c then a else b) = x) : b = x := (if_neg h).symm.trans hf
/-- branches whose test is told the other way round -/
theorem it_n {α : Type} {c : Prop} [Decidable c] {a b x : α} (h : ¬ ¬ c) (hf : (if c then a else b) = x) : a = x := it_t (Decidable.of_not_not h) hf
def zq_rd {α β : Type} (a : Nat → α) (n : Nat) (i : Int32) (k : α → Option β) : Option β := if ¬ (i < 0 ∨ n ≤ i.toNatClampNeg) then k (a i.toNatClampNeg) else none
theorem zq_rd_s {α β : Type} {a : Nat → α} {n : Nat} {i : Int32} {k : α → Option β} {x : β} (h : zq_rd a n i k = some x) : ∃ v, v = a i.toNatClampNeg ∧ vp_in i n ∧ k v = some x := by
  unfold zq_rd at h
  by_cases c : ¬ (i < 0 ∨ n ≤ i.toNatClampNeg)
  · rw [if_pos c] at h; exact ⟨_, rfl, c, h⟩
  · rw [if_neg c] at h; cases h
def zq_in {β : Type} (n : Nat) (i : Int32) (k : Option β) : Option β := if ¬ (i < 0 ∨ n ≤ i.toNatClampNeg) then k else none
theorem zq_in_s {β : Type} {n : Nat} {i : Int32} {k : Option β} {x : β} (h : zq_in n i k = some x) : vp_in i n ∧ k = some x := by
  unfold zq_in at h
  by_cases c : ¬ (i < 0 ∨ n ≤ i.toNatClampNeg)
  · rw [if_pos c] at h; exact ⟨c, h⟩
  · rw [if_neg c] at h; cases h
def zq_dv {β : Type} (y : Int32) (k : Option β) : Option β := if ¬ y = 0 then k else none
theorem zq_dv_s {β : Type} {y : Int32} {k : Option β} {x : β} (h : zq_dv y k = some x) : ¬ y = 0 ∧ k = some x := by
  unfold zq_dv at h
  by_cases c : ¬ y = 0
  · rw [if_pos c] at h; exact ⟨c, h⟩
  · rw [if_neg c] at h; cases h
def zq_dl {β : Type} (y : Int64) (k : Option β) : Option β := if ¬ y = 0 then k else none
theorem zq_dl_s {β : Type} {y : Int64} {k : Option β} {x : β} (h : zq_dl y k = some x) : ¬ y = 0 ∧ k = some x := by
  unfold zq_dl at h
  by_cases c : ¬ y = 0
  · rw [if_pos c] at h; exact ⟨c, h⟩
  · rw [if_neg c] at h; cases h
/-- a boolean that is 0 or 1 -/
def zq_z {β : Type} (v : Int32) (k : Option β) : Option β := if v = 0 ∨ v = 1 then k else none
theorem zq_z_s {β : Type} {v : Int32} {k : Option β} {x : β} (h : zq_z v k = some x) : (v = 0 ∨ v = 1) ∧ k = some x := by
  unfold zq_z at h
  by_cases c : v = 0 ∨ v = 1
  · rw [if_pos c] at h; exact ⟨c, h⟩
  · rw [if_neg c] at h; cases h
theorem zq_nz {v : Int32} (h : v = 0 ∨ v = 1) : narrow .boolean (.int v) = .int v := by
  rcases h with rfl | rfl <;> rfl
/-- a state gets a name -/
def zq_lt {α β : Type} (a : α) (k : α → Option β) : Option β := k a
theorem zq_lt_s {α β : Type} {a : α} {k : α → Option β} {x : β} (h : zq_lt a k = some x) : ∃ z, z = a ∧ k z = some x := ⟨a, rfl, h⟩
/-- a copy of n cells: places told, contents that fit -/
def zq_cp {β : Type} (ty : FieldType) (f : Nat → Int32) (n0 n1 : Nat) (sp dp n : Int32) (k : Option β) : Option β :=
  if ((¬ sp < 0) ∧ (¬ dp < 0) ∧ (¬ n < 0)) ∧ (sp.toNatClampNeg + n.toNatClampNeg ≤ n0 ∧ dp.toNatClampNeg + n.toNatClampNeg ≤ n1) ∧ (∀ i, i < n.toNatClampNeg → fits ty (.int (f (sp.toNatClampNeg + i))) = true) then k else none
theorem zq_cp_s {β : Type} {ty : FieldType} {f : Nat → Int32} {n0 n1 : Nat} {sp dp n : Int32} {k : Option β} {x : β} (h : zq_cp ty f n0 n1 sp dp n k = some x) :
    (((¬ sp < 0) ∧ (¬ dp < 0) ∧ (¬ n < 0)) ∧ (sp.toNatClampNeg + n.toNatClampNeg ≤ n0 ∧ dp.toNatClampNeg + n.toNatClampNeg ≤ n1) ∧ (∀ i, i < n.toNatClampNeg → fits ty (.int (f (sp.toNatClampNeg + i))) = true)) ∧ k = some x := by
  unfold zq_cp at h
  split at h
  · exact ⟨by assumption, h⟩
  · cases h
def zq_b1 {A β : Type} (o : Option A) (k : A → Option β) : Option β := match o with | none => none | some a => k a
theorem zq_b1_s {A β : Type} {o : Option A} {k : A → Option β} {x : β} (h : zq_b1 o k = some x) : ∃ a, o = some a ∧ k a = some x := by
  cases o with
  | none => cases h
  | some a => exact ⟨a, rfl, h⟩
/-! the words of all methods: those of the tables that may be taken along -/
def zB : List Cond := lw_tbl.filter goodWord
theorem zB_in {w : Cond} (i : Nat) (h : lw_tbl[i]? = some w) (hg : goodWord w = true) : w ∈ zB := List.mem_filter.mpr ⟨List.mem_of_getElem? h, hg⟩
theorem zB_all {Ts : List Cond} (h : ∀ w ∈ lw_tbl, w ∈ Ts) : ∀ w ∈ zB, w ∈ Ts := fun w hw => h w (List.mem_filter.mp hw).1
theorem zB_good : ∀ w ∈ zB, (w.onTables && w.keeps) = true ∨ ∃ ty, w = .arrayClass ty := fun w hw => good_of_word (List.mem_filter.mp hw).2
theorem zB_ps (ws : List Cond) (ps : List Nat) (hp : ws = ps.filterMap (fun i => lw_tbl[i]?)) (h : ws.all goodWord = true) : ∀ w ∈ ws, w ∈ zB := by
  intro w hw
  have h1 := List.all_eq_true.mp h w hw
  rw [hp] at hw
  obtain ⟨i, -, hi⟩ := List.mem_filterMap.mp hw
  exact List.mem_filter.mpr ⟨List.mem_of_getElem? hi, h1⟩
abbrev zW (y : MethodName) (cc : ByteArray) (maxL : Nat) (ret : Option FieldType) : List Cond := Cond.code y cc maxL ret :: zB
theorem zW_good {y : MethodName} {cc : ByteArray} {maxL : Nat} {ret : Option FieldType} {Ts : List Cond} (hT : ∀ w ∈ zB, w ∈ Ts) (hc : Cond.code y cc maxL ret ∈ zB) : GoodIn Ts (zW y cc maxL ret) := by
  intro w hw
  rcases List.mem_cons.mp hw with rfl | h
  · exact ⟨hT _ hc, zB_good _ hc⟩
  · exact ⟨hT _ h, zB_good _ h⟩
/-! private members of nest mates -/
def zN (U : State) : Prop := va_Nw (.methodLinkNest RX3 19 yX2_init RX3) U ∧ va_Nw (.methodLinkNest RX3 29 yX0_init RX3) U ∧ va_Nw (.methodLinkNest RX3 45 yX1_init RX3) U ∧ va_Nw (.methodLinkNest RX2 75 yX3_isCut RX3) U ∧ va_Nw (.methodLinkNest RX2 86 yX3_isLevel RX3) U ∧ va_Nw (.methodLinkNest RX2 107 yX3_lightBy RX3) U ∧ va_Nw (.methodLinkNest RX2 113 yX3_hasBit RX3) U ∧ va_Nw (.methodLinkNest RX2 130 yX3_darkestStretch RX3) U
theorem zN.same {u U : State} (h : u.vm = U.vm) (z : zN u) : zN U := by
  obtain ⟨h1, h2, h3, h4, h5, h6, h7, h8⟩ := z
  exact ⟨va_Nw.same rfl h h1, va_Nw.same rfl h h2, va_Nw.same rfl h h3, va_Nw.same rfl h h4, va_Nw.same rfl h h5, va_Nw.same rfl h h6, va_Nw.same rfl h h7, va_Nw.same rfl h h8⟩
theorem zN.warm {s U : State} (hW : s.WarmedH U.vm) (z : zN s) : zN U := by
  obtain ⟨h1, h2, h3, h4, h5, h6, h7, h8⟩ := z
  exact ⟨va_Nw.warmM hW h1, va_Nw.warmM hW h2, va_Nw.warmM hW h3, va_Nw.warmM hW h4, va_Nw.warmM hW h5, va_Nw.warmM hW h6, va_Nw.warmM hW h7, va_Nw.warmM hW h8⟩
/-! contracts: from the world w0 the method comes to the world w1, with the answer r0; it makes nothing -/
def zT (cy : Nat → ClassId) : List (ClassId × FieldType) := [(cy 0, .int), (cy 1, .boolean), (cy 2, .long), (cy 3, .object RX1)]
def zPre (D : va_G) (cy : Nat → ClassId) (ws : va_W) (sz : Nat) : State → Prop := fun U => U.heap.size = sz ∧ va_P D vwCl ws U.heap ∧ va_K D vwCl (zT cy) U ∧ va_D (fun _ => True) ws ∧ zN U
def zMI (l : Launch) (y : MethodName) (wy : List Cond) (rm : Room) (D : va_G) (cy : Nat → ClassId) (av : List Value) (w0 : va_W) (r0 : Int32) (w1 : va_W) : Prop :=
  ∀ sz : Nat, Met l y wy rm (va_Pc av (zPre D cy w0 sz)) (va_Qi (S := Unit) (fun r _ => r = r0) (fun _ t => va_P D vwCl w1 t.heap ∧ va_D (va_A w0 sz) w1) (va_A w0 sz)) 0 0 (va_A w0 sz)
def zML (l : Launch) (y : MethodName) (wy : List Cond) (rm : Room) (D : va_G) (cy : Nat → ClassId) (av : List Value) (w0 : va_W) (r0 : Int64) (w1 : va_W) : Prop :=
  ∀ sz : Nat, Met l y wy rm (va_Pc av (zPre D cy w0 sz)) (va_Ql (S := Unit) (fun r _ => r = r0) (fun _ t => va_P D vwCl w1 t.heap ∧ va_D (va_A w0 sz) w1) (va_A w0 sz)) 0 0 (va_A w0 sz)
def zMV (l : Launch) (y : MethodName) (wy : List Cond) (rm : Room) (D : va_G) (cy : Nat → ClassId) (av : List Value) (w0 : va_W) (w1 : va_W) : Prop :=
  ∀ sz : Nat, Met l y wy rm (va_Pc av (zPre D cy w0 sz)) (va_Qv (S := Unit) (fun _ => True) (fun _ t => va_P D vwCl w1 t.heap ∧ va_D (va_A w0 sz) w1) (va_A w0 sz)) 0 0 (va_A w0 sz)
/-- what holds at every place of a method's walk -/
abbrev zCx (p : Program) (s : State) (m : MethodId) (args : Array Value) (c : Code) (cc : ByteArray) (nL : Nat) (own : String) (D : va_G) (cy : Nat → ClassId) (A : Nat → Prop) : Prop :=
  CallFix p m c cc nL s args zB own ∧ va_K D vwCl (zT cy) s ∧ (∀ q, s.heap.size ≤ q → A q) ∧ zN s
section ZE
variable {l : Launch} {y : MethodName} {rm : Room} {D : va_G} {cy : Nat → ClassId} {av : List Value} {w0 w1 : va_W} {cc : ByteArray} {maxL : Nat}
theorem zEI {r0 : Int32} {ty : FieldType} (hy : plainName y.cls = true) (hlen : (lg_sl av).length ≤ maxL)
    (body : ∀ (p : Program) (e : Env) (s : State) (m : MethodId) (below : List Frame) (meth : Method) (c : Code) (A : Nat → Prop) (Q : State → Prop), zCx p s m av.toArray c cc maxL y.cls D cy A →
      (∀ (H : Heap) (locs : List Loc) (ls : Array Slot) (pc : Nat), narrow ty (.int r0) = .int r0 → decode cc pc = .ok (.ireturn, 1) → va_P D vwCl w1 H → va_D A w1 → va_S A s.heap H locs → W p l e rm s m av.toArray below meth c H locs 0 0 Q (F0 m pc ls [.int r0])) →
      ∀ ls, lv_has ls maxL (lv_args 0 av) → va_P D vwCl w0 s.heap → va_D A w0 → W p l e rm s m av.toArray below meth c s.heap [] 0 0 Q (F0 m 0 ls [])) : zMI l y (zW y cc maxL (some ty)) rm D cy av w0 r0 w1 := by
  intro sz
  refine Met.ofW (cc := cc) (maxL := maxL) (ret := some ty) hy rfl ?_
  intro p e s m args below meth c s₁ B hml hv
  obtain ⟨rfl, hsz, hP, hK, hD0, hN⟩ := hv
  subst hsz
  have hts := atoms_spec (ws := zW y cc maxL (some ty)) B.pre
  have hlk := B.notSynchronized
  rw [lg_entry_eq]
  refine body p e s m below meth c (va_A w0 s.heap.size) _ ⟨⟨B.exec, B.bytes, hml, findClass_of_methodNamed B.named, fun w hw => hts w (List.mem_cons_of_mem _ hw)⟩, hK, fun q h => Or.inr h, hN⟩ ?_ _ (lv_entry av hlen) hP (hD0.self (sz := s.heap.size))
  intro H locs ls pc hn hd hP1 hD1 hS
  exact W.zret (ty := ty) B.exec B.bytes B.returns hn (fun t ht hW => ⟨⟨r0, (), rfl, rfl, by rw [ht]; exact hP1, hD1⟩, hS.F ht⟩) hS.2.2 hd hlk
theorem zEL {r0 : Int64} (hy : plainName y.cls = true) (hlen : (lg_sl av).length ≤ maxL)
    (body : ∀ (p : Program) (e : Env) (s : State) (m : MethodId) (below : List Frame) (meth : Method) (c : Code) (A : Nat → Prop) (Q : State → Prop), zCx p s m av.toArray c cc maxL y.cls D cy A →
      (∀ (H : Heap) (locs : List Loc) (ls : Array Slot) (pc : Nat), decode cc pc = .ok (.lreturn, 1) → va_P D vwCl w1 H → va_D A w1 → va_S A s.heap H locs → W p l e rm s m av.toArray below meth c H locs 0 0 Q (F0 m pc ls [.long r0])) →
      ∀ ls, lv_has ls maxL (lv_args 0 av) → va_P D vwCl w0 s.heap → va_D A w0 → W p l e rm s m av.toArray below meth c s.heap [] 0 0 Q (F0 m 0 ls [])) : zML l y (zW y cc maxL (some .long)) rm D cy av w0 r0 w1 := by
  intro sz
  refine Met.ofW (cc := cc) (maxL := maxL) (ret := some .long) hy rfl ?_
  intro p e s m args below meth c s₁ B hml hv
  obtain ⟨rfl, hsz, hP, hK, hD0, hN⟩ := hv
  subst hsz
  have hts := atoms_spec (ws := zW y cc maxL (some .long)) B.pre
  have hlk := B.notSynchronized
  rw [lg_entry_eq]
  refine body p e s m below meth c (va_A w0 s.heap.size) _ ⟨⟨B.exec, B.bytes, hml, findClass_of_methodNamed B.named, fun w hw => hts w (List.mem_cons_of_mem _ hw)⟩, hK, fun q h => Or.inr h, hN⟩ ?_ _ (lv_entry av hlen) hP (hD0.self (sz := s.heap.size))
  intro H locs ls pc hd hP1 hD1 hS
  exact W.lret B.exec B.bytes B.returns (fun t ht hW => ⟨⟨r0, (), rfl, rfl, by rw [ht]; exact hP1, hD1⟩, hS.F ht⟩) hS.2.2 hd hlk
theorem zEV (hy : plainName y.cls = true) (hlen : (lg_sl av).length ≤ maxL)
    (body : ∀ (p : Program) (e : Env) (s : State) (m : MethodId) (below : List Frame) (meth : Method) (c : Code) (A : Nat → Prop) (Q : State → Prop), zCx p s m av.toArray c cc maxL y.cls D cy A →
      (∀ (H : Heap) (locs : List Loc) (ls : Array Slot) (pc : Nat), decode cc pc = .ok (.return_, 1) → va_P D vwCl w1 H → va_D A w1 → va_S A s.heap H locs → W p l e rm s m av.toArray below meth c H locs 0 0 Q (F0 m pc ls [])) →
      ∀ ls, lv_has ls maxL (lv_args 0 av) → va_P D vwCl w0 s.heap → va_D A w0 → W p l e rm s m av.toArray below meth c s.heap [] 0 0 Q (F0 m 0 ls [])) : zMV l y (zW y cc maxL none) rm D cy av w0 w1 := by
  intro sz
  refine Met.ofW (cc := cc) (maxL := maxL) (ret := none) hy rfl ?_
  intro p e s m args below meth c s₁ B hml hv
  obtain ⟨rfl, hsz, hP, hK, hD0, hN⟩ := hv
  subst hsz
  have hts := atoms_spec (ws := zW y cc maxL none) B.pre
  have hlk := B.notSynchronized
  rw [lg_entry_eq]
  refine body p e s m below meth c (va_A w0 s.heap.size) _ ⟨⟨B.exec, B.bytes, hml, findClass_of_methodNamed B.named, fun w hw => hts w (List.mem_cons_of_mem _ hw)⟩, hK, fun q h => Or.inr h, hN⟩ ?_ _ (lv_entry av hlen) hP (hD0.self (sz := s.heap.size))
  intro H locs ls pc hd hP1 hD1 hS
  exact W.vret B.exec B.bytes B.returns (fun t ht hW => ⟨⟨(), rfl, trivial, by rw [ht]; exact hP1, hD1⟩, hS.F ht⟩) hS.2.2 hd hlk
end ZE
/-! a callee's world is a part of the caller's: with the part changed the caller's is another -/
def zF (ws w0 ws' w1 : va_W) : Prop := ∃ (ks rs : List Nat) (wr : va_W) (ps : List Nat), ks.map (fun i => ws[i]?) = w0.map some ∧ rs.map (fun i => ws[i]?) = wr.map some ∧ va_nd rs = true ∧ (∀ i ∈ rs, i ∉ ks) ∧ va_nd ks = true ∧ ps.map (fun i => (wr ++ w1)[i]?) = ws'.map some ∧ va_nd ps = true
theorem zq_fm {ws w0 : va_W} : ∀ {ks : List Nat} {w0 : va_W}, ks.map (fun i => ws[i]?) = w0.map some → ks.filterMap (fun i => ws[i]?) = w0
  | [], [], _ => rfl
  | [], _ :: _, h => by cases h
  | _ :: _, [], h => by cases h
  | k :: ks, q :: w, h => by
    simp only [List.map_cons, List.cons.injEq] at h
    rw [List.filterMap_cons, h.1]
    simp only [zq_fm (w0 := w0) h.2]
theorem zq_rng {ws : va_W} : (List.range ws.length).map (fun i => ws[i]?) = ws.map some := by
  apply List.ext_getElem?
  intro i
  simp only [List.getElem?_map]
  by_cases h : i < ws.length
  · rw [List.getElem?_range h]; simp [h]
  · rw [List.getElem?_eq_none (by simpa using h), List.getElem?_eq_none (by simpa using h)]; rfl
theorem zq_ndP : ∀ (l : List Nat), l.Pairwise (fun a b => a ≠ b) → va_nd l = true
  | [], _ => rfl
  | a :: l, h => by
    rw [List.pairwise_cons] at h
    simp only [va_nd, Bool.and_eq_true, decide_eq_true_eq]
    exact ⟨fun hm => h.1 a hm rfl, zq_ndP l h.2⟩
theorem zq_ndR (n : Nat) : va_nd (List.range n) = true := zq_ndP _ (List.nodup_range (n := n))
theorem zF.id {ws ws' : va_W} : zF ws ws ws' ws' := ⟨List.range ws.length, [], [], List.range ws'.length, zq_rng, rfl, rfl, (fun i h => by cases h), zq_ndR _, (by simpa using zq_rng), zq_ndR _⟩
theorem zF.nil {ws : va_W} : zF ws [] ws [] := ⟨[], List.range ws.length, ws, List.range ws.length, rfl, zq_rng, zq_ndR _, (fun i _ h => by cases h), rfl, (by simpa using zq_rng), zq_ndR _⟩
section ZC
variable {p : Program} {l : Launch} {e : Env} {R : Room} {s : State} {m : MethodId} {args : Array Value} {below : List Frame} {meth : Method} {c : Code} {H : Heap} {locs : List Loc} {cells slots : Nat} {Q : State → Prop}
variable {y : MethodName} {bytes cc : ByteArray} {maxL nL n index pc : Nat} {ret : Option FieldType} {rm : Room} {Ts : List Cond} {own C : String} {b : Addr} {As rest st : List Value} {ls : Array Slot} {a : Array Value}
variable {D : va_G} {cy : Nat → ClassId} {A : Nat → Prop} {w0 w1 ws ws' : va_W}
/-- what a call asks of the tables, out of the words of all methods -/
theorem zcB (hT : ∀ w ∈ Ts, w.before args s = true) (hZ : ∀ w ∈ zB, w ∈ Ts) (n : Nat) (hc : Cond.code y bytes maxL ret ∈ zB) (hini : Cond.initialized y.cls ∈ zB) (hl : Cond.methodLink own index y ∈ zB) (hrm : rm.cells = 0 ∧ rm.slots = 0)
    (hd : y.cls ≠ "java/lang/invoke/MethodHandle" ∧ y.cls ≠ "java/lang/invoke/VarHandle" ∧ (parseMethodDescriptor y.desc).map (fun d => d.parameters.length) = some n) (hR : rm.frames + 1 ≤ R.frames ∧ 8 + (maxL + 11) + rm.locals ≤ R.locals) :
    CallB R s args own index y bytes maxL ret (zW y bytes maxL ret) rm 0 0 n :=
  callB_of n hT (zW_good hZ hc) rfl hrm.1 hrm.2 (hT _ (hZ _ hini)) (hT _ (hZ _ hl)) hd hR
theorem zpre (hN : zN s) (hK : va_K D vwCl (zT cy) s) (hP : va_P D vwCl w0 H) (hD : va_D A w0) (av : List Value) : FrameBlind (va_Pc av (zPre D cy w0 H.size)) ∧ ∀ U : State, U.heap = H → s.WarmedH U.vm → va_Pc av (zPre D cy w0 H.size) av.toArray U :=
  ⟨fun a U g mk q => by
      obtain ⟨q0, q1, qP, qK, qD, qN⟩ := q
      exact ⟨q0, q1, qP, va_K.moved (u := U) (U := U.calling g mk a) (Vm.Alike.refl U.vm) qK, qD, zN.same (u := U) rfl qN⟩,
    fun U hU hW => ⟨rfl, by rw [hU], by rw [hU]; exact hP, va_K.moved hW.alike hK, hD.weaken (fun _ _ _ _ => trivial), zN.warm hW hN⟩⟩
/-- behind the call -/
theorem zcI {r0 : Int32} (F : zF ws w0 ws' w1) (hA : ∀ q, s.heap.size ≤ q → A q) (hP : va_P D vwCl ws H) (hD : va_D A ws) (hS : va_S A s.heap H locs)
    (hr : va_P D vwCl w0 H → va_D A w0 → va_Run p l e R s m args below meth c H locs cells slots 0 0 (F0 m pc ls st) rest (va_Qi (S := Unit) (fun r _ => r = r0) (fun _ t => va_P D vwCl w1 t.heap ∧ va_D (va_A w0 H.size) w1) (va_A w0 H.size) a) (va_A w0 H.size))
    (kk : ∀ (H1 : Heap) (locs1 : List Loc), va_P D vwCl ws' H1 → va_D A ws' → va_S A s.heap H1 locs1 → W p l e R s m args below meth c H1 locs1 cells slots Q (F0 m (pc + 3) ls (.int r0 :: rest))) : W p l e R s m args below meth c H locs cells slots Q (F0 m pc ls st) := by
  obtain ⟨ks, rs, wr, ps, hC, hR, hn, hdis, hnk, hps, hnp⟩ := F
  have hF := va_free (wc := w0) hD hS hA ks hC
  refine va_calli (hr (hP.sub ks (zq_fm (w0 := w0) hC)) (hD.sub ks hnk hC)) hS (fun q _ h => hF q h) hF (fun r u t H1 locs1 ht hvm hw hB hz1 hk1 hS1 => ?_)
  have hw : r = r0 := hw
  subst hw
  obtain ⟨hB1, hB2⟩ := hB
  rw [ht] at hB1
  obtain ⟨hP1, hD1⟩ := va_join hP hD ks rs hC hR hn hdis hk1 hF hB1 hB2
  exact kk H1 locs1 (hP1.sub ps (zq_fm (w0 := w0) hps)) (hD1.sub ps hnp hps) hS1
theorem zcL {r0 : Int64} (F : zF ws w0 ws' w1) (hA : ∀ q, s.heap.size ≤ q → A q) (hP : va_P D vwCl ws H) (hD : va_D A ws) (hS : va_S A s.heap H locs)
    (hr : va_P D vwCl w0 H → va_D A w0 → va_Run p l e R s m args below meth c H locs cells slots 0 0 (F0 m pc ls st) rest (va_Ql (S := Unit) (fun r _ => r = r0) (fun _ t => va_P D vwCl w1 t.heap ∧ va_D (va_A w0 H.size) w1) (va_A w0 H.size) a) (va_A w0 H.size))
    (kk : ∀ (H1 : Heap) (locs1 : List Loc), va_P D vwCl ws' H1 → va_D A ws' → va_S A s.heap H1 locs1 → W p l e R s m args below meth c H1 locs1 cells slots Q (F0 m (pc + 3) ls (.long r0 :: rest))) : W p l e R s m args below meth c H locs cells slots Q (F0 m pc ls st) := by
  obtain ⟨ks, rs, wr, ps, hC, hR, hn, hdis, hnk, hps, hnp⟩ := F
  have hF := va_free (wc := w0) hD hS hA ks hC
  refine va_calll (hr (hP.sub ks (zq_fm (w0 := w0) hC)) (hD.sub ks hnk hC)) hS (fun q _ h => hF q h) hF (fun r u t H1 locs1 ht hvm hw hB hz1 hk1 hS1 => ?_)
  have hw : r = r0 := hw
  subst hw
  obtain ⟨hB1, hB2⟩ := hB
  rw [ht] at hB1
  obtain ⟨hP1, hD1⟩ := va_join hP hD ks rs hC hR hn hdis hk1 hF hB1 hB2
  exact kk H1 locs1 (hP1.sub ps (zq_fm (w0 := w0) hps)) (hD1.sub ps hnp hps) hS1
theorem zcV (F : zF ws w0 ws' w1) (hA : ∀ q, s.heap.size ≤ q → A q) (hP : va_P D vwCl ws H) (hD : va_D A ws) (hS : va_S A s.heap H locs)
    (hr : va_P D vwCl w0 H → va_D A w0 → va_Run p l e R s m args below meth c H locs cells slots 0 0 (F0 m pc ls st) rest (va_Qv (S := Unit) (fun _ => True) (fun _ t => va_P D vwCl w1 t.heap ∧ va_D (va_A w0 H.size) w1) (va_A w0 H.size) a) (va_A w0 H.size))
    (kk : ∀ (H1 : Heap) (locs1 : List Loc), va_P D vwCl ws' H1 → va_D A ws' → va_S A s.heap H1 locs1 → W p l e R s m args below meth c H1 locs1 cells slots Q (F0 m (pc + 3) ls rest)) : W p l e R s m args below meth c H locs cells slots Q (F0 m pc ls st) := by
  obtain ⟨ks, rs, wr, ps, hC, hR, hn, hdis, hnk, hps, hnp⟩ := F
  have hF := va_free (wc := w0) hD hS hA ks hC
  refine va_callv (hr (hP.sub ks (zq_fm (w0 := w0) hC)) (hD.sub ks hnk hC)) hS (fun q _ h => hF q h) hF (fun u t H1 locs1 ht hvm hw hB hz1 hk1 hS1 => ?_)
  obtain ⟨hB1, hB2⟩ := hB
  rw [ht] at hB1
  obtain ⟨hP1, hD1⟩ := va_join hP hD ks rs hC hR hn hdis hk1 hF hB1 hB2
  exact kk H1 locs1 (hP1.sub ps (zq_fm (w0 := w0) hps)) (hD1.sub ps hnp hps) hS1
/-- what is told of a method that is called: by the tables, once for all -/
abbrev zYV (y : MethodName) (bytes : ByteArray) (maxL : Nat) (ret : Option FieldType) (C : String) (n : Nat) : Prop :=
  Cond.code y bytes maxL ret ∈ zB ∧ Cond.initialized y.cls ∈ zB ∧ (y.cls ≠ "java/lang/invoke/MethodHandle" ∧ y.cls ≠ "java/lang/invoke/VarHandle" ∧ (parseMethodDescriptor y.desc).map (fun d => d.parameters.length) = some n) ∧ Cond.instanceMethod y ∈ zB ∧ Cond.selects C y y ∈ zB
abbrev zYS (y : MethodName) (bytes : ByteArray) (maxL : Nat) (ret : Option FieldType) (n : Nat) : Prop :=
  Cond.code y bytes maxL ret ∈ zB ∧ Cond.initialized y.cls ∈ zB ∧ (y.cls ≠ "java/lang/invoke/MethodHandle" ∧ y.cls ≠ "java/lang/invoke/VarHandle" ∧ (parseMethodDescriptor y.desc).map (fun d => d.parameters.length) = some n) ∧ Cond.static y ∈ zB
/-- a caller whose words hold those of all methods -/
abbrev zCy (p : Program) (s : State) (m : MethodId) (args : Array Value) (c : Code) (cc : ByteArray) (nL : Nat) (own : String) (Ts : List Cond) (D : va_G) (cy : Nat → ClassId) (A : Nat → Prop) : Prop :=
  CallFix p m c cc nL s args Ts own ∧ va_K D vwCl (zT cy) s ∧ (∀ q, s.heap.size ≤ q → A q) ∧ zN s
theorem zrV (C0 : zCy p s m args c cc nL own Ts D cy A) (hZ : ∀ w ∈ zB, w ∈ Ts) {Qc : Array Value → State → Outcome → State → Prop} {free : Addr → Prop} {Pc : Array Value → State → Prop}
    (hM : Met l y (zW y bytes maxL ret) rm Pc Qc 0 0 free) (hY : zYV y bytes maxL ret C n) (hl : Cond.methodLink own index y ∈ zB) (hrm : rm.cells = 0 ∧ rm.slots = 0) (hR : rm.frames + 1 ≤ R.frames ∧ 8 + (maxL + 11) + rm.locals ≤ R.locals)
    (hpb : FrameBlind Pc) (hpu : ∀ U : State, U.heap = H → s.WarmedH U.vm → Pc (Value.ref b :: As).toArray U) (hP : va_P D vwCl ws H) {q0 ci N : Nat} {T : u_T} {fs : List Value} (hc : vwCl[ci]? = some (C, T, N)) (he : ws[q0]? = some (b, .inr (ci, fs))) (hn : As.length = n) (hls : ls.size = nL) (hst : st = As.reverse ++ .ref b :: rest) (hW : (rest.map fun v => v.category).sum ≤ 8)
    (hdg : decode cc pc = .ok (.invokevirtual index, 3)) (hcs : cells ≤ R.cells ∧ slots ≤ R.slots) : va_Run p l e R s m args below meth c H locs cells slots 0 0 (F0 m pc ls st) rest (Qc (Value.ref b :: As).toArray) free :=
  va_runV (As := As) (rest := rest) C0.1 hM ⟨zcB C0.1.2.2.2.2 hZ n hY.1 hY.2.1 hl hrm hY.2.2.1 hR, C0.1.2.2.2.2 _ (hZ _ hY.2.2.2.1), C0.1.2.2.2.2 _ (hZ _ hY.2.2.2.2)⟩ ⟨hpb, va_recv C0.2.1 hP hc he, hpu⟩ rfl hn hls hst (lv_room hW) hdg hcs
theorem zrS (C0 : zCy p s m args c cc nL own Ts D cy A) (hZ : ∀ w ∈ zB, w ∈ Ts) {Qc : Array Value → State → Outcome → State → Prop} {free : Addr → Prop} {Pc : Array Value → State → Prop}
    (hM : Met l y (zW y bytes maxL ret) rm Pc Qc 0 0 free) (hY : zYS y bytes maxL ret n) (hl : Cond.methodLink own index y ∈ zB) (hrm : rm.cells = 0 ∧ rm.slots = 0) (hR : rm.frames + 1 ≤ R.frames ∧ 8 + (maxL + 11) + rm.locals ≤ R.locals)
    (hpb : FrameBlind Pc) (hpu : ∀ U : State, U.heap = H → s.WarmedH U.vm → Pc As.toArray U) (hn : As.length = n) (hls : ls.size = nL) (hst : st = As.reverse ++ rest) (hW : (rest.map fun v => v.category).sum ≤ 8)
    (hdg : decode cc pc = .ok (.invokestatic index, 3)) (hcs : cells ≤ R.cells ∧ slots ≤ R.slots) : va_Run p l e R s m args below meth c H locs cells slots 0 0 (F0 m pc ls st) rest (Qc As.toArray) free :=
  va_runS (As := As) (rest := rest) C0.1 hM ⟨zcB C0.1.2.2.2.2 hZ n hY.1 hY.2.1 hl hrm hY.2.2.1 hR, C0.1.2.2.2.2 _ (hZ _ hY.2.2.2)⟩ ⟨hpb, hpu⟩ rfl hn hls hst (lv_room hW) hdg hcs
theorem zrN (C0 : zCy p s m args c cc nL own Ts D cy A) (hZ : ∀ w ∈ zB, w ∈ Ts) {Qc : Array Value → State → Outcome → State → Prop} {free : Addr → Prop} {Pc : Array Value → State → Prop} {host : String}
    (hM : Met l y (zW y bytes maxL ret) rm Pc Qc 0 0 free) (hY : zYS y bytes maxL ret n) (hl : va_Nw (.methodLinkNest own index y host) s) (hrm : rm.cells = 0 ∧ rm.slots = 0) (hR : rm.frames + 1 ≤ R.frames ∧ 8 + (maxL + 11) + rm.locals ≤ R.locals)
    (hpb : FrameBlind Pc) (hpu : ∀ U : State, U.heap = H → s.WarmedH U.vm → Pc As.toArray U) (hn : As.length = n) (hls : ls.size = nL) (hst : st = As.reverse ++ rest) (hW : (rest.map fun v => v.category).sum ≤ 8)
    (hdg : decode cc pc = .ok (.invokestatic index, 3)) (hcs : cells ≤ R.cells ∧ slots ≤ R.slots) : va_Run p l e R s m args below meth c H locs cells slots 0 0 (F0 m pc ls st) rest (Qc As.toArray) free :=
  va_runSN (As := As) (rest := rest) C0.1 hM ⟨va_cnB n C0.1.2.2.2.2 (zW_good hZ hY.1) rfl hrm.1 hrm.2 hl (C0.1.2.2.2.2 _ (hZ _ hY.2.1)) hY.2.2.1 hR, C0.1.2.2.2.2 _ (hZ _ hY.2.2.2), trivial⟩ ⟨hpb, hpu⟩ rfl hn hls hst (lv_room hW) hdg hcs
/-! the rows of calls, in a method's walk -/
theorem zVI {r0 : Int32} (C0 : zCy p s m args c cc nL own Ts D cy A) (hZ : ∀ w ∈ zB, w ∈ Ts) (F : zF ws w0 ws' w1) (hM : zMI l y (zW y bytes maxL ret) rm D cy (.ref b :: As) w0 r0 w1) (hP : va_P D vwCl ws H) (hD : va_D A ws) (hS : va_S A s.heap H locs) (hY : zYV y bytes maxL ret C n) (hl : Cond.methodLink own index y ∈ zB) (hrm : rm.cells = 0 ∧ rm.slots = 0) (hR : rm.frames + 1 ≤ R.frames ∧ 8 + (maxL + 11) + rm.locals ≤ R.locals) {q0 ci N : Nat} {T : u_T} {fs : List Value} (hc : vwCl[ci]? = some (C, T, N)) (he : ws[q0]? = some (b, .inr (ci, fs))) (hn : As.length = n) (hls : ls.size = nL) (hst : st = As.reverse ++ .ref b :: rest) (hW : (rest.map fun v => v.category).sum ≤ 8) (hdg : decode cc pc = .ok (.invokevirtual index, 3)) (hcs : cells ≤ R.cells ∧ slots ≤ R.slots) (kk : ∀ (H1 : Heap) (locs1 : List Loc), va_P D vwCl ws' H1 → va_D A ws' → va_S A s.heap H1 locs1 → W p l e R s m args below meth c H1 locs1 cells slots Q (F0 m (pc + 3) ls (.int r0 :: rest))) : W p l e R s m args below meth c H locs cells slots Q (F0 m pc ls st) :=
  zcI F C0.2.2.1 hP hD hS (fun h0 d0 => zrV C0 hZ (hM H.size) hY hl hrm hR (zpre C0.2.2.2 C0.2.1 h0 d0 _).1 (zpre C0.2.2.2 C0.2.1 h0 d0 _).2 hP hc he hn hls hst hW hdg hcs) kk
theorem zSI {r0 : Int32} (C0 : zCy p s m args c cc nL own Ts D cy A) (hZ : ∀ w ∈ zB, w ∈ Ts) (F : zF ws w0 ws' w1) (hM : zMI l y (zW y bytes maxL ret) rm D cy As w0 r0 w1) (hP : va_P D vwCl ws H) (hD : va_D A ws) (hS : va_S A s.heap H locs) (hY : zYS y bytes maxL ret n) (hl : Cond.methodLink own index y ∈ zB) (hrm : rm.cells = 0 ∧ rm.slots = 0) (hR : rm.frames + 1 ≤ R.frames ∧ 8 + (maxL + 11) + rm.locals ≤ R.locals) (hn : As.length = n) (hls : ls.size = nL) (hst : st = As.reverse ++ rest) (hW : (rest.map fun v => v.category).sum ≤ 8) (hdg : decode cc pc = .ok (.invokestatic index, 3)) (hcs : cells ≤ R.cells ∧ slots ≤ R.slots) (kk : ∀ (H1 : Heap) (locs1 : List Loc), va_P D vwCl ws' H1 → va_D A ws' → va_S A s.heap H1 locs1 → W p l e R s m args below meth c H1 locs1 cells slots Q (F0 m (pc + 3) ls (.int r0 :: rest))) : W p l e R s m args below meth c H locs cells slots Q (F0 m pc ls st) :=
  zcI F C0.2.2.1 hP hD hS (fun h0 d0 => zrS C0 hZ (hM H.size) hY hl hrm hR (zpre C0.2.2.2 C0.2.1 h0 d0 _).1 (zpre C0.2.2.2 C0.2.1 h0 d0 _).2 hn hls hst hW hdg hcs) kk
theorem zNI {r0 : Int32} {host : String} (C0 : zCy p s m args c cc nL own Ts D cy A) (hZ : ∀ w ∈ zB, w ∈ Ts) (F : zF ws w0 ws' w1) (hM : zMI l y (zW y bytes maxL ret) rm D cy As w0 r0 w1) (hP : va_P D vwCl ws H) (hD : va_D A ws) (hS : va_S A s.heap H locs) (hY : zYS y bytes maxL ret n) (hl : va_Nw (.methodLinkNest own index y host) s) (hrm : rm.cells = 0 ∧ rm.slots = 0) (hR : rm.frames + 1 ≤ R.frames ∧ 8 + (maxL + 11) + rm.locals ≤ R.locals) (hn : As.length = n) (hls : ls.size = nL) (hst : st = As.reverse ++ rest) (hW : (rest.map fun v => v.category).sum ≤ 8) (hdg : decode cc pc = .ok (.invokestatic index, 3)) (hcs : cells ≤ R.cells ∧ slots ≤ R.slots) (kk : ∀ (H1 : Heap) (locs1 : List Loc), va_P D vwCl ws' H1 → va_D A ws' → va_S A s.heap H1 locs1 → W p l e R s m args below meth c H1 locs1 cells slots Q (F0 m (pc + 3) ls (.int r0 :: rest))) : W p l e R s m args below meth c H locs cells slots Q (F0 m pc ls st) :=
  zcI F C0.2.2.1 hP hD hS (fun h0 d0 => zrN C0 hZ (hM H.size) hY hl hrm hR (zpre C0.2.2.2 C0.2.1 h0 d0 _).1 (zpre C0.2.2.2 C0.2.1 h0 d0 _).2 hn hls hst hW hdg hcs) kk
theorem zVL {r0 : Int64} (C0 : zCy p s m args c cc nL own Ts D cy A) (hZ : ∀ w ∈ zB, w ∈ Ts) (F : zF ws w0 ws' w1) (hM : zML l y (zW y bytes maxL ret) rm D cy (.ref b :: As) w0 r0 w1) (hP : va_P D vwCl ws H) (hD : va_D A ws) (hS : va_S A s.heap H locs) (hY : zYV y bytes maxL ret C n) (hl : Cond.methodLink own index y ∈ zB) (hrm : rm.cells = 0 ∧ rm.slots = 0) (hR : rm.frames + 1 ≤ R.frames ∧ 8 + (maxL + 11) + rm.locals ≤ R.locals) {q0 ci N : Nat} {T : u_T} {fs : List Value} (hc : vwCl[ci]? = some (C, T, N)) (he : ws[q0]? = some (b, .inr (ci, fs))) (hn : As.length = n) (hls : ls.size = nL) (hst : st = As.reverse ++ .ref b :: rest) (hW : (rest.map fun v => v.category).sum ≤ 8) (hdg : decode cc pc = .ok (.invokevirtual index, 3)) (hcs : cells ≤ R.cells ∧ slots ≤ R.slots) (kk : ∀ (H1 : Heap) (locs1 : List Loc), va_P D vwCl ws' H1 → va_D A ws' → va_S A s.heap H1 locs1 → W p l e R s m args below meth c H1 locs1 cells slots Q (F0 m (pc + 3) ls (.long r0 :: rest))) : W p l e R s m args below meth c H locs cells slots Q (F0 m pc ls st) :=
  zcL F C0.2.2.1 hP hD hS (fun h0 d0 => zrV C0 hZ (hM H.size) hY hl hrm hR (zpre C0.2.2.2 C0.2.1 h0 d0 _).1 (zpre C0.2.2.2 C0.2.1 h0 d0 _).2 hP hc he hn hls hst hW hdg hcs) kk
theorem zSL {r0 : Int64} (C0 : zCy p s m args c cc nL own Ts D cy A) (hZ : ∀ w ∈ zB, w ∈ Ts) (F : zF ws w0 ws' w1) (hM : zML l y (zW y bytes maxL ret) rm D cy As w0 r0 w1) (hP : va_P D vwCl ws H) (hD : va_D A ws) (hS : va_S A s.heap H locs) (hY : zYS y bytes maxL ret n) (hl : Cond.methodLink own index y ∈ zB) (hrm : rm.cells = 0 ∧ rm.slots = 0) (hR : rm.frames + 1 ≤ R.frames ∧ 8 + (maxL + 11) + rm.locals ≤ R.locals) (hn : As.length = n) (hls : ls.size = nL) (hst : st = As.reverse ++ rest) (hW : (rest.map fun v => v.category).sum ≤ 8) (hdg : decode cc pc = .ok (.invokestatic index, 3)) (hcs : cells ≤ R.cells ∧ slots ≤ R.slots) (kk : ∀ (H1 : Heap) (locs1 : List Loc), va_P D vwCl ws' H1 → va_D A ws' → va_S A s.heap H1 locs1 → W p l e R s m args below meth c H1 locs1 cells slots Q (F0 m (pc + 3) ls (.long r0 :: rest))) : W p l e R s m args below meth c H locs cells slots Q (F0 m pc ls st) :=
  zcL F C0.2.2.1 hP hD hS (fun h0 d0 => zrS C0 hZ (hM H.size) hY hl hrm hR (zpre C0.2.2.2 C0.2.1 h0 d0 _).1 (zpre C0.2.2.2 C0.2.1 h0 d0 _).2 hn hls hst hW hdg hcs) kk
theorem zVV  (C0 : zCy p s m args c cc nL own Ts D cy A) (hZ : ∀ w ∈ zB, w ∈ Ts) (F : zF ws w0 ws' w1) (hM : zMV l y (zW y bytes maxL ret) rm D cy (.ref b :: As) w0 w1) (hP : va_P D vwCl ws H) (hD : va_D A ws) (hS : va_S A s.heap H locs) (hY : zYV y bytes maxL ret C n) (hl : Cond.methodLink own index y ∈ zB) (hrm : rm.cells = 0 ∧ rm.slots = 0) (hR : rm.frames + 1 ≤ R.frames ∧ 8 + (maxL + 11) + rm.locals ≤ R.locals) {q0 ci N : Nat} {T : u_T} {fs : List Value} (hc : vwCl[ci]? = some (C, T, N)) (he : ws[q0]? = some (b, .inr (ci, fs))) (hn : As.length = n) (hls : ls.size = nL) (hst : st = As.reverse ++ .ref b :: rest) (hW : (rest.map fun v => v.category).sum ≤ 8) (hdg : decode cc pc = .ok (.invokevirtual index, 3)) (hcs : cells ≤ R.cells ∧ slots ≤ R.slots) (kk : ∀ (H1 : Heap) (locs1 : List Loc), va_P D vwCl ws' H1 → va_D A ws' → va_S A s.heap H1 locs1 → W p l e R s m args below meth c H1 locs1 cells slots Q (F0 m (pc + 3) ls rest)) : W p l e R s m args below meth c H locs cells slots Q (F0 m pc ls st) :=
  zcV F C0.2.2.1 hP hD hS (fun h0 d0 => zrV C0 hZ (hM H.size) hY hl hrm hR (zpre C0.2.2.2 C0.2.1 h0 d0 _).1 (zpre C0.2.2.2 C0.2.1 h0 d0 _).2 hP hc he hn hls hst hW hdg hcs) kk
theorem zSV  (C0 : zCy p s m args c cc nL own Ts D cy A) (hZ : ∀ w ∈ zB, w ∈ Ts) (F : zF ws w0 ws' w1) (hM : zMV l y (zW y bytes maxL ret) rm D cy As w0 w1) (hP : va_P D vwCl ws H) (hD : va_D A ws) (hS : va_S A s.heap H locs) (hY : zYS y bytes maxL ret n) (hl : Cond.methodLink own index y ∈ zB) (hrm : rm.cells = 0 ∧ rm.slots = 0) (hR : rm.frames + 1 ≤ R.frames ∧ 8 + (maxL + 11) + rm.locals ≤ R.locals) (hn : As.length = n) (hls : ls.size = nL) (hst : st = As.reverse ++ rest) (hW : (rest.map fun v => v.category).sum ≤ 8) (hdg : decode cc pc = .ok (.invokestatic index, 3)) (hcs : cells ≤ R.cells ∧ slots ≤ R.slots) (kk : ∀ (H1 : Heap) (locs1 : List Loc), va_P D vwCl ws' H1 → va_D A ws' → va_S A s.heap H1 locs1 → W p l e R s m args below meth c H1 locs1 cells slots Q (F0 m (pc + 3) ls rest)) : W p l e R s m args below meth c H locs cells slots Q (F0 m pc ls st) :=
  zcV F C0.2.2.1 hP hD hS (fun h0 d0 => zrS C0 hZ (hM H.size) hY hl hrm hR (zpre C0.2.2.2 C0.2.1 h0 d0 _).1 (zpre C0.2.2.2 C0.2.1 h0 d0 _).2 hn hls hst hW hdg hcs) kk
end ZC
section ZH
variable {p : Program} {l : Launch} {e : Env} {R : Room} {s : State} {m : MethodId} {args : Array Value} {below : List Frame} {meth : Method} {c : Code} {H : Heap} {locs : List Loc} {cells slots : Nat} {Q : State → Prop}
variable {cc : ByteArray} {nL index pc n : Nat} {own : String} {rest : List Value} {ls : Array Slot} {D : va_G} {cy : Nat → ClassId} {A : Nat → Prop} {a : Nat} {ws ws' : va_W}
theorem vp_lt {i : Int32} {n : Nat} (h : vp_in i n) : i.toNatClampNeg < n := Nat.not_le.mp fun q => h (Or.inr q)
theorem zgf (C0 : zCx p s m args c cc nL own D cy A) {ref C : String} {T : u_T} {N ci : Nat} (hin : ∀ w ∈ u_ws C T N, w ∈ zB) (hc : vwCl[ci]? = some (C, T, N)) (k : Nat) (hk : k < N) (hl : Cond.fieldLink own index ref (T k).2.1 (T k).2.2.1 ∈ zB) (href : (T k).1 = ref) (hP : va_P D vwCl ws H) (q0 : Nat) {fs : List Value} (he : ws[q0]? = some (a, .inr (ci, fs))) {v : Value} (hv : fs[k]? = some v) (hdg : decode cc pc = .ok (.getfield index, 3))
    (kk : W p l e R s m args below meth c H locs cells slots Q (F0 m (pc + 3) ls (v :: rest))) : W p l e R s m args below meth c H locs cells slots Q (F0 m pc ls (.ref a :: rest)) :=
  va_get C0.1.1 C0.1.2.1 C0.1.2.2.2.2 hin C0.1.2.2.2.1 C0.2.1 hP q0 he hc k hk (C0.1.2.2.2.2 _ hl) (fun x h => by rw [← href]; exact h) hv hdg kk
theorem zpf (C0 : zCx p s m args c cc nL own D cy A) {ref C : String} {T : u_T} {N ci : Nat} (hin : ∀ w ∈ u_ws C T N, w ∈ zB) (hc : vwCl[ci]? = some (C, T, N)) (ty0 : Nat → FieldType) (hty : ∀ k, k < N → parseFieldDescriptor (T k).2.2.1 = some (ty0 k)) (hnm : ∀ a, a < N → ∀ b, b < N → a ≠ b → (T a).2.1 ≠ (T b).2.1) (k : Nat) (hk : k < N) (hl : Cond.fieldLink own index ref (T k).2.1 (T k).2.2.1 ∈ zB) (href : (T k).1 = ref) (hfin : (T k).2.2.2 = false) {ty : FieldType} (hd : parseFieldDescriptor (T k).2.2.1 = some ty) (hP : va_P D vwCl ws H) (hD : va_D A ws) (hS : va_S A s.heap H locs) (q0 : Nat) {fs : List Value} (he : ws[q0]? = some (a, .inr (ci, fs))) {v : Value} (hn : narrow ty v = v) (hfit : fits ty v = true) (hlen : k < fs.length)
    (hset : ws.set q0 (a, .inr (ci, fs.set k v)) = ws') (hdg : decode cc pc = .ok (.putfield index, 3)) (kk : ∀ (H1 : Heap) (locs1 : List Loc), va_P D vwCl ws' H1 → va_D A ws' → va_S A s.heap H1 locs1 → W p l e R s m args below meth c H1 locs1 cells slots Q (F0 m (pc + 3) ls rest)) : W p l e R s m args below meth c H locs cells slots Q (F0 m pc ls (v :: .ref a :: rest)) := by
  subst hset
  exact va_put C0.1.1 C0.1.2.1 C0.1.2.2.2.2 hin ty0 hty hnm C0.1.2.2.2.1 C0.2.1 hP hD hS q0 he hc k hk (C0.1.2.2.2.2 _ hl) (fun x h => by rw [← href]; exact h) hfin hd hn hfit hlen hdg kk
theorem zia (C0 : zCx p s m args c cc nL own D cy A) (hP : va_P D vwCl ws H) (q0 : Nat) {f : Nat → Int32} (ha : ws[q0]? = some (a, .inl (cy 0, n, .inl f))) {i v : Int32} (hv : v = f i.toNatClampNeg) (hin : vp_in i n) (hdg : decode cc pc = .ok (.iaload, 1))
    (kk : W p l e R s m args below meth c H locs cells slots Q (F0 m (pc + 1) ls (.int v :: rest))) : W p l e R s m args below meth c H locs cells slots Q (F0 m pc ls (.int i :: .ref a :: rest)) := by
  subst hv
  exact va_iald C0.1.1 C0.1.2.1 C0.2.1 hP q0 0 ha rfl hin hdg kk
theorem zza (C0 : zCx p s m args c cc nL own D cy A) (hP : va_P D vwCl ws H) (q0 : Nat) {f : Nat → Int32} (ha : ws[q0]? = some (a, .inl (cy 1, n, .inl f))) {i v : Int32} (hv : v = f i.toNatClampNeg) (hin : vp_in i n) (hdg : decode cc pc = .ok (.baload, 1))
    (kk : W p l e R s m args below meth c H locs cells slots Q (F0 m (pc + 1) ls (.int v :: rest))) : W p l e R s m args below meth c H locs cells slots Q (F0 m pc ls (.int i :: .ref a :: rest)) := by
  subst hv
  exact va_zald C0.1.1 C0.1.2.1 C0.2.1 hP q0 1 ha rfl hin hdg kk
theorem zla (C0 : zCx p s m args c cc nL own D cy A) (hP : va_P D vwCl ws H) (q0 : Nat) {f : Nat → Int64} (ha : ws[q0]? = some (a, .inl (cy 2, n, .inr (.inl f)))) {i : Int32} {v : Int64} (hv : v = f i.toNatClampNeg) (hin : vp_in i n) (hdg : decode cc pc = .ok (.laload, 1))
    (kk : W p l e R s m args below meth c H locs cells slots Q (F0 m (pc + 1) ls (.long v :: rest))) : W p l e R s m args below meth c H locs cells slots Q (F0 m pc ls (.int i :: .ref a :: rest)) := by
  subst hv
  exact va_lald C0.1.1 C0.1.2.1 C0.2.1 hP q0 2 ha rfl hin hdg kk
theorem zra (C0 : zCx p s m args c cc nL own D cy A) (hP : va_P D vwCl ws H) (q0 : Nat) {f : Nat → Option Nat} (ha : ws[q0]? = some (a, .inl (cy 3, n, .inr (.inr (.inr (.inr f)))))) {i : Int32} {v : Nat} (hv : f i.toNatClampNeg = some v) (hin : vp_in i n) (hdg : decode cc pc = .ok (.aaload, 1))
    (kk : W p l e R s m args below meth c H locs cells slots Q (F0 m (pc + 1) ls (.ref v :: rest))) : W p l e R s m args below meth c H locs cells slots Q (F0 m pc ls (.int i :: .ref a :: rest)) := by
  refine va_aldq C0.1.1 C0.1.2.1 C0.2.1 hP q0 3 ha rfl hin hdg ?_
  rw [hv]
  exact kk
theorem zis (C0 : zCx p s m args c cc nL own D cy A) (hP : va_P D vwCl ws H) (hD : va_D A ws) (hS : va_S A s.heap H locs) (q0 : Nat) {f : Nat → Int32} (ha : ws[q0]? = some (a, .inl (cy 0, n, .inl f))) {i x : Int32} (hin : vp_in i n) (hset : ws.set q0 (a, .inl (cy 0, n, .inl (upd f i.toNatClampNeg x))) = ws') (hdg : decode cc pc = .ok (.iastore, 1))
    (kk : ∀ (H1 : Heap) (locs1 : List Loc), va_P D vwCl ws' H1 → va_D A ws' → va_S A s.heap H1 locs1 → W p l e R s m args below meth c H1 locs1 cells slots Q (F0 m (pc + 1) ls rest)) : W p l e R s m args below meth c H locs cells slots Q (F0 m pc ls (.int x :: .int i :: .ref a :: rest)) := by
  subst hset
  exact va_iast C0.1.1 C0.1.2.1 C0.2.1 hP hD hS q0 0 ha rfl hin hdg kk
theorem zzs (C0 : zCx p s m args c cc nL own D cy A) (hP : va_P D vwCl ws H) (hD : va_D A ws) (hS : va_S A s.heap H locs) (q0 : Nat) {f : Nat → Int32} (ha : ws[q0]? = some (a, .inl (cy 1, n, .inl f))) {i x : Int32} (hin : vp_in i n) (hset : ws.set q0 (a, .inl (cy 1, n, .inl (upd f i.toNatClampNeg (vp_nar .boolean x)))) = ws') (hdg : decode cc pc = .ok (.bastore, 1))
    (kk : ∀ (H1 : Heap) (locs1 : List Loc), va_P D vwCl ws' H1 → va_D A ws' → va_S A s.heap H1 locs1 → W p l e R s m args below meth c H1 locs1 cells slots Q (F0 m (pc + 1) ls rest)) : W p l e R s m args below meth c H locs cells slots Q (F0 m pc ls (.int x :: .int i :: .ref a :: rest)) := by
  subst hset
  exact va_zast C0.1.1 C0.1.2.1 C0.2.1 hP hD hS q0 1 ha rfl hin hdg kk
theorem zls (C0 : zCx p s m args c cc nL own D cy A) (hP : va_P D vwCl ws H) (hD : va_D A ws) (hS : va_S A s.heap H locs) (q0 : Nat) {f : Nat → Int64} (ha : ws[q0]? = some (a, .inl (cy 2, n, .inr (.inl f)))) {i : Int32} {x : Int64} (hin : vp_in i n) (hset : ws.set q0 (a, .inl (cy 2, n, .inr (.inl (vp_updL f i.toNatClampNeg x)))) = ws') (hdg : decode cc pc = .ok (.lastore, 1))
    (kk : ∀ (H1 : Heap) (locs1 : List Loc), va_P D vwCl ws' H1 → va_D A ws' → va_S A s.heap H1 locs1 → W p l e R s m args below meth c H1 locs1 cells slots Q (F0 m (pc + 1) ls rest)) : W p l e R s m args below meth c H locs cells slots Q (F0 m pc ls (.long x :: .int i :: .ref a :: rest)) := by
  subst hset
  exact va_last C0.1.1 C0.1.2.1 C0.2.1 hP hD hS q0 2 ha rfl hin hdg kk
/-- System.arraycopy of ints (t0 0) or booleans (t0 1) -/
theorem zcpy (C0 : zCx p s m args c cc nL own D cy A) (hls : ls.size = nL) (t0 : Nat) {ty : FieldType} (htt : (zT cy)[t0]? = some (cy t0, ty)) (hprim : refKind ty = false) (hl : Cond.methodLink own index arraycopyName ∈ zB) (hnat : Cond.native arraycopyName ∈ zB) (hstat : Cond.static arraycopyName ∈ zB) (hini : Cond.initialized "java/lang/System" ∈ zB)
    (hP : va_P D vwCl ws H) (hD : va_D A ws) (hS : va_S A s.heap H locs) (q0 q1 : Nat) {a0 n0 n1 : Nat} {f g : Nat → Int32} (ha0 : ws[q0]? = some (a0, .inl (cy t0, n0, .inl f))) (ha1 : ws[q1]? = some (a, .inl (cy t0, n1, .inl g))) {sp dp nn : Int32}
    (hh : ((¬ sp < 0) ∧ (¬ dp < 0) ∧ (¬ nn < 0)) ∧ (sp.toNatClampNeg + nn.toNatClampNeg ≤ n0 ∧ dp.toNatClampNeg + nn.toNatClampNeg ≤ n1) ∧ (∀ i, i < nn.toNatClampNeg → fits ty (.int (f (sp.toNatClampNeg + i))) = true))
    (hfr : 1 ≤ R.frames) (hlo : (rest.map fun v => v.category).sum + (nativeFrameWords "java/lang/System" "arraycopy" 5 + 11) ≤ R.locals)
    (hset : ws.set q1 (a, .inl (cy t0, n1, .inl (va_cpy f g sp.toNatClampNeg dp.toNatClampNeg nn.toNatClampNeg))) = ws') (hdg : decode cc pc = .ok (.invokestatic index, 3))
    (kk : ∀ (H1 : Heap) (locs1 : List Loc), va_P D vwCl ws' H1 → va_D A ws' → va_S A s.heap H1 locs1 → W p l e R s m args below meth c H1 locs1 cells slots Q (F0 m (pc + 3) ls rest)) : W p l e R s m args below meth c H locs cells slots Q (F0 m pc ls (.int nn :: .int dp :: .ref a :: .int sp :: .ref a0 :: rest)) := by
  subst hset
  have T := C0.1.2.2.2.2
  exact va_copyi C0.1.1 C0.1.2.1 (C0.1.2.2.1.trans hls.symm) C0.1.2.2.2.1 (T _ hl) (T _ hnat) (T _ hstat) (T _ hini) C0.2.1 hP hD hS q0 q1 t0 t0 ha0 ha1 htt htt hprim hh.1.1 hh.1.2.1 hh.1.2.2 hh.2.1.1 hh.2.1.2 hh.2.2 hfr hlo hdg kk
theorem zmmax (C0 : zCx p s m args c cc nL own D cy A) (hls : ls.size = nL) (hl : Cond.methodLink own index Lib.Math.max.name ∈ zB) (hstat : Cond.static Lib.Math.max.name ∈ zB) (hini : Cond.initialized "java/lang/Math" ∈ zB) (hcode : Cond.code Lib.Math.max.name Lib.Math.max.code 2 (some .int) ∈ zB) (hfr : 1 ≤ R.frames) (hlo : (rest.map fun v => v.category).sum + 13 ≤ R.locals) (hcs : cells ≤ R.cells ∧ slots ≤ R.slots) {x y : Int32} (hdg : decode cc pc = .ok (.invokestatic index, 3))
    (kk : W p l e R s m args below meth c H locs cells slots Q (F0 m (pc + 3) ls (.int (if x < y then y else x) :: rest))) : W p l e R s m args below meth c H locs cells slots Q (F0 m pc ls (.int y :: .int x :: rest)) :=
  va_mmax C0.1.1 C0.1.2.1 (C0.1.2.2.1.trans hls.symm) C0.1.2.2.2.1 (C0.1.2.2.2.2 _ hl) (C0.1.2.2.2.2 _ hstat) (C0.1.2.2.2.2 _ hini) (C0.1.2.2.2.2 _ hcode) hfr hlo hcs.1 hcs.2 hdg kk
theorem zmmin (C0 : zCx p s m args c cc nL own D cy A) (hls : ls.size = nL) (hl : Cond.methodLink own index Lib.Math.min.name ∈ zB) (hstat : Cond.static Lib.Math.min.name ∈ zB) (hini : Cond.initialized "java/lang/Math" ∈ zB) (hcode : Cond.code Lib.Math.min.name Lib.Math.min.code 2 (some .int) ∈ zB) (hfr : 1 ≤ R.frames) (hlo : (rest.map fun v => v.category).sum + 13 ≤ R.locals) (hcs : cells ≤ R.cells ∧ slots ≤ R.slots) {x y : Int32} (hdg : decode cc pc = .ok (.invokestatic index, 3))
    (kk : W p l e R s m args below meth c H locs cells slots Q (F0 m (pc + 3) ls (.int (if y < x then y else x) :: rest))) : W p l e R s m args below meth c H locs cells slots Q (F0 m pc ls (.int y :: .int x :: rest)) :=
  va_mmin C0.1.1 C0.1.2.1 (C0.1.2.2.1.trans hls.symm) C0.1.2.2.2.1 (C0.1.2.2.2.2 _ hl) (C0.1.2.2.2.2 _ hstat) (C0.1.2.2.2.2 _ hini) (C0.1.2.2.2.2 _ hcode) hfr hlo hcs.1 hcs.2 hdg kk
theorem zalen (C0 : zCx p s m args c cc nL own D cy A) (hP : va_P D vwCl ws H) (q0 : Nat) {f : Nat → Int32} (ha : ws[q0]? = some (a, .inl (cy 0, n, .inl f))) (hdg : decode cc pc = .ok (.arraylength, 1))
    (kk : W p l e R s m args below meth c H locs cells slots Q (F0 m (pc + 1) ls (.int (Int32.ofNat n) :: rest))) : W p l e R s m args below meth c H locs cells slots Q (F0 m pc ls (.ref a :: rest)) :=
  va_alen C0.1.1 C0.1.2.1 C0.2.1 hP q0 0 ha rfl rfl hdg kk
theorem zalenL (C0 : zCx p s m args c cc nL own D cy A) (hP : va_P D vwCl ws H) (q0 : Nat) {f : Nat → Int64} (ha : ws[q0]? = some (a, .inl (cy 2, n, .inr (.inl f)))) (hdg : decode cc pc = .ok (.arraylength, 1))
    (kk : W p l e R s m args below meth c H locs cells slots Q (F0 m (pc + 1) ls (.int (Int32.ofNat n) :: rest))) : W p l e R s m args below meth c H locs cells slots Q (F0 m pc ls (.ref a :: rest)) :=
  va_alen C0.1.1 C0.1.2.1 C0.2.1 hP q0 2 ha rfl rfl hdg kk
end ZH
