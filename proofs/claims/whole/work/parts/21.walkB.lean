def f_X2_layFrame_L45 (x3 : Int32) (x4 : Int32) (x6 : Int32) : Nat → Int32 → Int32 → zS → Option (Int32 × zS)
  | 0, _, _, _ => none
  | q9 + 1, x2, x7, n =>
  if x6 ≤ x7 then (
  some (x2, n)) else (
  if 15 ≤ x2 then (
  some (x2, n)) else (
  zq_in 15 x2 (zq_lt (va_up n 6 (upd (n 6) (Int32.toNatClampNeg x2) x4)) (fun n7 =>
  zq_in 15 x2 (zq_lt (va_up n7 7 (upd (n7 7) (Int32.toNatClampNeg x2) x3)) (fun n9 =>
  f_X2_layFrame_L45 x3 x4 x6 q9 (x2 + 1) (x7 + 1) n9))))))
def f_X2_layFrame_L18 (x1 : Int32) (x3 : Int32) : Nat → Int32 → Int32 → zS → Option (Int32 × zS)
  | 0, _, _, _ => none
  | q9 + 1, x2, x4, n =>
  if x4 < 0 then (
  some (x2, n)) else (
  zq_b2 (f_X2_layFrame_L45 x3 x4 (if (1 <<< (x4 &&& 31)) < ((x3 * x1) + x1) then (1 <<< (x4 &&& 31)) else ((x3 * x1) + x1)) 100 x2 (x3 * x1) n) (fun y11 n12 =>
  f_X2_layFrame_L18 x1 x3 q9 y11 (x4 + (-1)) n12))
def f_X2_layFrame_L9 (x1 : Int32) : Nat → Int32 → Int32 → zS → Option (zS)
  | 0, _, _, _ => none
  | q9 + 1, x2, x3, n =>
  if 8 ≤ x3 then (
  some n) else (
  zq_b2 (f_X2_layFrame_L18 x1 x3 100 x2 3 n) (fun y14 n15 =>
  f_X2_layFrame_L9 x1 q9 y14 (x3 + 1) n15))
def f_X2_layFrame (n : zS) (x1 : Int32) : Option (zS) :=
  zq_lt (va_up n 10 (fun _ => x1)) (fun n1 =>
  zq_b1 (f_X2_layFrame_L9 x1 100 0 0 n1) (fun n17 =>
  some n17))
set_option maxHeartbeats 4000000 in
set_option maxRecDepth 100000 in
theorem w_X2_layFrame_L45 {l : Launch} {p : Program} {e : Env} {s9 : State} {m9 : MethodId} {ag : Array Value} {below : List Frame} {meth : Method} {c : Code} {A : Nat → Prop} {Q : State → Prop} {D : va_G} {ad : Nat → Nat} {cy : Nat → ClassId} {x3 : Int32} {x4 : Int32} {x6 : Int32} {x1 : Int32} (C0 : zCx p s9 m9 ag c cX2_layFrame 8 RX2 D cy A)  {o2 : Int32} {no : zS} (e0 : ∀ (H : Heap) (locs : List Loc) (ls : Array Slot), va_P D vwCl (wdW ad cy no) H → va_D A (wdW ad cy no) → va_S A s9.heap H locs → lv_has ls 8 [(0, .ref (ad 0)), (1, .int x1), (2, .int o2), (3, .int x3), (4, .int x4)] → W p l e { frames := 1, cells := 0, slots := 0, locals := 21 } s9 m9 ag below meth c H locs 0 0 Q (F0 m9 82 ls [])) : ∀ (q9 : Nat) (x2 : Int32) (x7 : Int32) (n : zS), f_X2_layFrame_L45 x3 x4 x6 q9 x2 x7 n = some (o2, no) → ∀ (H : Heap) (locs : List Loc) (ls : Array Slot), va_P D vwCl (wdW ad cy n) H → va_D A (wdW ad cy n) → va_S A s9.heap H locs → lv_has ls 8 [(0, .ref (ad 0)), (1, .int x1), (2, .int x2), (3, .int x3), (4, .int x4), (6, .int x6), (7, .int x7)] → W p l e { frames := 1, cells := 0, slots := 0, locals := 21 } s9 m9 ag below meth c H locs 0 0 Q (F0 m9 45 ls []) := by
  obtain ⟨hx, hb, hml, hown, hts⟩ := id C0.1
  intro q9
  induction q9 with
  | zero =>
    intro x2 x7 n hf
    rw [f_X2_layFrame_L45] at hf
    cases hf
  | succ q9 ih =>
    intro x2 x7 n hf H locs ls hP hD hS hl
    rw [f_X2_layFrame_L45] at hf
    refine lv_iload hx hb dX2_layFrame_45 (lv_at hl 6 rfl) ?_
    refine lv_iload hx hb dX2_layFrame_47 (lv_at hl 5 rfl) ?_
    refine lv_icmp_ge (tgt := 82) hx hb dX2_layFrame_49 (by decide) (fun c4 => ?_) (fun c4 => ?_)
    · have hf := it_t c4 hf
      obtain ⟨rfl, rfl⟩ := zq_j2 hf
      exact e0 _ _ _ hP hD hS (lv_sub hl [0, 1, 2, 3, 4] rfl)
    · have hf := it_f c4 hf
      refine lv_iload_n hx hb dX2_layFrame_52 rfl (lv_at hl 2 rfl) ?_
      refine lv_bipush (v := 15) hx hb dX2_layFrame_53 (by decide) ?_
      refine lv_icmp_ge (tgt := 82) hx hb dX2_layFrame_55 (by decide) (fun c5 => ?_) (fun c5 => ?_)
      · have hf := it_t c5 hf
        obtain ⟨rfl, rfl⟩ := zq_j2 hf
        exact e0 _ _ _ hP hD hS (lv_sub hl [0, 1, 2, 3, 4] rfl)
      · have hf := it_f c5 hf
        refine lv_aload_n hx hb dX2_layFrame_58 rfl (lv_at hl 0 rfl) ?_
        refine gf_X2_31 C0 hP 0 wdW_0 rfl dX2_layFrame_59 ?_
        refine lv_iload_n hx hb dX2_layFrame_62 rfl (lv_at hl 2 rfl) ?_
        refine lv_iload hx hb dX2_layFrame_63 (lv_at hl 4 rfl) ?_
        obtain ⟨h6, hf⟩ := zq_in_s hf
        obtain ⟨n7, en7, hf⟩ := zq_lt_s hf
        refine zis (ws' := (wdW ad cy n7)) C0 hP hD hS 7 wdW_7 h6 (by rw [en7]; rfl) dX2_layFrame_65 (fun H locs hP hD hS => ?_)
        refine lv_aload_n hx hb dX2_layFrame_66 rfl (lv_at hl 0 rfl) ?_
        refine gf_X2_34 C0 hP 0 wdW_0 rfl dX2_layFrame_67 ?_
        refine lv_iload_n hx hb dX2_layFrame_70 rfl (lv_at hl 2 rfl) ?_
        refine lv_iload_n hx hb dX2_layFrame_71 rfl (lv_at hl 3 rfl) ?_
        obtain ⟨h8, hf⟩ := zq_in_s hf
        obtain ⟨n9, en9, hf⟩ := zq_lt_s hf
        refine zis (ws' := (wdW ad cy n9)) C0 hP hD hS 8 wdW_8 h8 (by rw [en9]; rfl) dX2_layFrame_72 (fun H locs hP hD hS => ?_)
        refine lv_iinc (v := (x2 + 1)) (lv' := [(2, .int (x2 + 1)), (0, .ref (ad 0)), (1, .int x1), (3, .int x3), (4, .int x4), (6, .int x6), (7, .int x7)]) hx hb dX2_layFrame_73 hl (k := 2) rfl rfl (by decide) rfl (fun ls hl => ?_)
        refine lv_iinc (v := (x7 + 1)) (lv' := [(7, .int (x7 + 1)), (2, .int (x2 + 1)), (0, .ref (ad 0)), (1, .int x1), (3, .int x3), (4, .int x4), (6, .int x6)]) hx hb dX2_layFrame_76 hl (k := 6) rfl rfl (by decide) rfl (fun ls hl => ?_)
        refine lv_goto (tgt := 45) hx hb dX2_layFrame_79 (by decide) ?_
        exact ih (x2 + 1) (x7 + 1) n9 hf _ _ _ hP hD hS (lv_sub hl [2, 3, 1, 4, 5, 6, 0] rfl)
set_option maxHeartbeats 4000000 in
set_option maxRecDepth 100000 in
theorem w_X2_layFrame_L18 {l : Launch} {p : Program} {e : Env} {s9 : State} {m9 : MethodId} {ag : Array Value} {below : List Frame} {meth : Method} {c : Code} {A : Nat → Prop} {Q : State → Prop} {D : va_G} {ad : Nat → Nat} {cy : Nat → ClassId} {x1 : Int32} {x3 : Int32} (C0 : zCx p s9 m9 ag c cX2_layFrame 8 RX2 D cy A)  {o2 : Int32} {no : zS} (e0 : ∀ (H : Heap) (locs : List Loc) (ls : Array Slot), va_P D vwCl (wdW ad cy no) H → va_D A (wdW ad cy no) → va_S A s9.heap H locs → lv_has ls 8 [(0, .ref (ad 0)), (1, .int x1), (2, .int o2), (3, .int x3)] → W p l e { frames := 1, cells := 0, slots := 0, locals := 21 } s9 m9 ag below meth c H locs 0 0 Q (F0 m9 88 ls [])) : ∀ (q9 : Nat) (x2 : Int32) (x4 : Int32) (n : zS), f_X2_layFrame_L18 x1 x3 q9 x2 x4 n = some (o2, no) → ∀ (H : Heap) (locs : List Loc) (ls : Array Slot), va_P D vwCl (wdW ad cy n) H → va_D A (wdW ad cy n) → va_S A s9.heap H locs → lv_has ls 8 [(0, .ref (ad 0)), (1, .int x1), (2, .int x2), (3, .int x3), (4, .int x4)] → W p l e { frames := 1, cells := 0, slots := 0, locals := 21 } s9 m9 ag below meth c H locs 0 0 Q (F0 m9 18 ls []) := by
  obtain ⟨hx, hb, hml, hown, hts⟩ := id C0.1
  intro q9
  induction q9 with
  | zero =>
    intro x2 x4 n hf
    rw [f_X2_layFrame_L18] at hf
    cases hf
  | succ q9 ih =>
    intro x2 x4 n hf H locs ls hP hD hS hl
    rw [f_X2_layFrame_L18] at hf
    refine lv_iload hx hb dX2_layFrame_18 (lv_at hl 4 rfl) ?_
    refine lv_if_lt (tgt := 88) hx hb dX2_layFrame_20 (by decide) (fun c3 => ?_) (fun c3 => ?_)
    · have hf := it_t c3 hf
      obtain ⟨rfl, rfl⟩ := zq_j2 hf
      exact e0 _ _ _ hP hD hS (lv_sub hl [0, 1, 2, 3] rfl)
    · have hf := it_f c3 hf
      refine lv_iload_n hx hb dX2_layFrame_23 rfl (lv_at hl 3 rfl) ?_
      refine lv_iload_n hx hb dX2_layFrame_24 rfl (lv_at hl 1 rfl) ?_
      refine lv_imul hx hb dX2_layFrame_25 ?_
      refine lv_istore (lv' := [(5, .int (x3 * x1)), (0, .ref (ad 0)), (1, .int x1), (2, .int x2), (3, .int x3), (4, .int x4)]) hx hb dX2_layFrame_26 hl (by decide) rfl (fun ls hl => ?_)
      refine lv_iload hx hb dX2_layFrame_28 (lv_at hl 0 rfl) ?_
      refine lv_iload_n hx hb dX2_layFrame_30 rfl (lv_at hl 2 rfl) ?_
      refine lv_iadd hx hb dX2_layFrame_31 ?_
      refine lv_iconst (v := 1) hx hb dX2_layFrame_32 (by decide) ?_
      refine lv_iload hx hb dX2_layFrame_33 (lv_at hl 5 rfl) ?_
      refine lv_ishl hx hb dX2_layFrame_35 ?_
      refine zmmin C0 hl.1 kl_X2_99 ks_min ki_J9 kd_min (Nat.le_of_ble_eq_true rfl) (Nat.le_of_ble_eq_true rfl) ⟨Nat.zero_le _, Nat.zero_le _⟩ dX2_layFrame_36 ?_
      refine lv_istore (lv' := [(6, .int (if (1 <<< (x4 &&& 31)) < ((x3 * x1) + x1) then (1 <<< (x4 &&& 31)) else ((x3 * x1) + x1))), (5, .int (x3 * x1)), (0, .ref (ad 0)), (1, .int x1), (2, .int x2), (3, .int x3), (4, .int x4)]) hx hb dX2_layFrame_39 hl (by decide) rfl (fun ls hl => ?_)
      refine lv_iload hx hb dX2_layFrame_41 (lv_at hl 1 rfl) ?_
      refine lv_istore (lv' := [(7, .int (x3 * x1)), (6, .int (if (1 <<< (x4 &&& 31)) < ((x3 * x1) + x1) then (1 <<< (x4 &&& 31)) else ((x3 * x1) + x1))), (5, .int (x3 * x1)), (0, .ref (ad 0)), (1, .int x1), (2, .int x2), (3, .int x3), (4, .int x4)]) hx hb dX2_layFrame_43 hl (by decide) rfl (fun ls hl => ?_)
      obtain ⟨y11, n12, hL10, hf⟩ := zq_b2_s hf
      refine w_X2_layFrame_L45 C0 (fun H locs ls hP hD hS hl => ?_) 100 x2 (x3 * x1) n hL10 _ _ _ hP hD hS (lv_sub hl [3, 4, 5, 6, 7, 1, 0] rfl)
      refine lv_iinc (v := (x4 + (-1))) (lv' := [(4, .int (x4 + (-1))), (0, .ref (ad 0)), (1, .int x1), (2, .int y11), (3, .int x3)]) hx hb dX2_layFrame_82 hl (k := 4) rfl rfl (by decide) rfl (fun ls hl => ?_)
      refine lv_goto (tgt := 18) hx hb dX2_layFrame_85 (by decide) ?_
      exact ih y11 (x4 + (-1)) n12 hf _ _ _ hP hD hS (lv_sub hl [1, 2, 3, 4, 0] rfl)
set_option maxHeartbeats 4000000 in
set_option maxRecDepth 100000 in
theorem w_X2_layFrame_L9 {l : Launch} {p : Program} {e : Env} {s9 : State} {m9 : MethodId} {ag : Array Value} {below : List Frame} {meth : Method} {c : Code} {A : Nat → Prop} {Q : State → Prop} {D : va_G} {ad : Nat → Nat} {cy : Nat → ClassId} {x1 : Int32} (C0 : zCx p s9 m9 ag c cX2_layFrame 8 RX2 D cy A)  {no : zS} (e0 : ∀ (H : Heap) (locs : List Loc) (ls : Array Slot), va_P D vwCl (wdW ad cy no) H → va_D A (wdW ad cy no) → va_S A s9.heap H locs → lv_has ls 8 [] → W p l e { frames := 1, cells := 0, slots := 0, locals := 21 } s9 m9 ag below meth c H locs 0 0 Q (F0 m9 94 ls [])) : ∀ (q9 : Nat) (x2 : Int32) (x3 : Int32) (n : zS), f_X2_layFrame_L9 x1 q9 x2 x3 n = some no → ∀ (H : Heap) (locs : List Loc) (ls : Array Slot), va_P D vwCl (wdW ad cy n) H → va_D A (wdW ad cy n) → va_S A s9.heap H locs → lv_has ls 8 [(0, .ref (ad 0)), (1, .int x1), (2, .int x2), (3, .int x3)] → W p l e { frames := 1, cells := 0, slots := 0, locals := 21 } s9 m9 ag below meth c H locs 0 0 Q (F0 m9 9 ls []) := by
  obtain ⟨hx, hb, hml, hown, hts⟩ := id C0.1
  intro q9
  induction q9 with
  | zero =>
    intro x2 x3 n hf
    rw [f_X2_layFrame_L9] at hf
    cases hf
  | succ q9 ih =>
    intro x2 x3 n hf H locs ls hP hD hS hl
    rw [f_X2_layFrame_L9] at hf
    refine lv_iload_n hx hb dX2_layFrame_9 rfl (lv_at hl 3 rfl) ?_
    refine lv_bipush (v := 8) hx hb dX2_layFrame_10 (by decide) ?_
    refine lv_icmp_ge (tgt := 94) hx hb dX2_layFrame_12 (by decide) (fun c2 => ?_) (fun c2 => ?_)
    · have hf := it_t c2 hf
      obtain rfl := Option.some.inj hf
      exact e0 _ _ _ hP hD hS (lv_sub hl [] rfl)
    · have hf := it_f c2 hf
      refine lv_iconst (v := 3) hx hb dX2_layFrame_15 (by decide) ?_
      refine lv_istore (lv' := [(4, .int 3), (0, .ref (ad 0)), (1, .int x1), (2, .int x2), (3, .int x3)]) hx hb dX2_layFrame_16 hl (by decide) rfl (fun ls hl => ?_)
      obtain ⟨y14, n15, hL13, hf⟩ := zq_b2_s hf
      refine w_X2_layFrame_L18 C0 (fun H locs ls hP hD hS hl => ?_) 100 x2 3 n hL13 _ _ _ hP hD hS (lv_sub hl [1, 2, 3, 4, 0] rfl)
      refine lv_iinc (v := (x3 + 1)) (lv' := [(3, .int (x3 + 1)), (0, .ref (ad 0)), (1, .int x1), (2, .int y14)]) hx hb dX2_layFrame_88 hl (k := 3) rfl rfl (by decide) rfl (fun ls hl => ?_)
      refine lv_goto (tgt := 9) hx hb dX2_layFrame_91 (by decide) ?_
      exact ih y14 (x3 + 1) n15 hf _ _ _ hP hD hS (lv_sub hl [1, 2, 3, 0] rfl)
set_option maxHeartbeats 4000000 in
set_option maxRecDepth 100000 in
theorem c_X2_layFrame {l : Launch} {D : va_G} {ad : Nat → Nat} {cy : Nat → ClassId} {n : zS} {x1 : Int32} {n' : zS} (hf : f_X2_layFrame n x1 = some n') : zMV l yX2_layFrame (zW yX2_layFrame cX2_layFrame 8 none) { frames := 1, cells := 0, slots := 0, locals := 21 } D cy [.ref (ad 0), .int x1] (wdW ad cy n) (wdW ad cy n') := by
  unfold f_X2_layFrame at hf
  refine zEV (by decide) (Nat.le_of_ble_eq_true rfl) ?_
  intro p e s9 m9 below meth c A Q C0 hret ls hl hP hD
  have hl : lv_has ls 8 [(0, .ref (ad 0)), (1, .int x1)] := hl
  have hS : va_S A s9.heap s9.heap [] := va_S.rf
  obtain ⟨hx, hb, hml, hown, hts⟩ := id C0.1
  refine lv_aload_n hx hb dX2_layFrame_0 rfl (lv_at hl 0 rfl) ?_
  refine lv_iload_n hx hb dX2_layFrame_1 rfl (lv_at hl 1 rfl) ?_
  obtain ⟨n1, en1, hf⟩ := zq_lt_s hf
  refine pf_X2_44 (ws' := (wdW ad cy n1)) C0 hP hD hS 0 wdW_0 (Nat.le_of_ble_eq_true rfl) (by rw [en1]; rfl) dX2_layFrame_2 (fun H locs hP hD hS => ?_)
  refine lv_iconst (v := 0) hx hb dX2_layFrame_5 (by decide) ?_
  refine lv_istore_n (lv' := [(2, .int 0), (0, .ref (ad 0)), (1, .int x1)]) hx hb dX2_layFrame_6 rfl hl (by decide) rfl (fun ls hl => ?_)
  refine lv_iconst (v := 0) hx hb dX2_layFrame_7 (by decide) ?_
  refine lv_istore_n (lv' := [(3, .int 0), (2, .int 0), (0, .ref (ad 0)), (1, .int x1)]) hx hb dX2_layFrame_8 rfl hl (by decide) rfl (fun ls hl => ?_)
  obtain ⟨n17, hL16, hf⟩ := zq_b1_s hf
  refine w_X2_layFrame_L9 C0 (fun H locs ls hP hD hS hl => ?_) 100 0 0 n1 hL16 _ _ _ hP hD hS (lv_sub hl [2, 3, 1, 0] rfl)
  obtain rfl := Option.some.inj hf
  exact hret _ _ _ _ dX2_layFrame_94 hP hD hS

def f_X2_takeCut (n : zS) (x1 : Int32) : Option (Int32 × zS) :=
  zq_b1 (f_X3_isCut x1) (fun r2 =>
  if r2 = 0 then (
  some (6, n)) else (
  zq_b1 (f_X2_layFrame n x1) (fun n5 =>
  some (2, n5))))
set_option maxHeartbeats 4000000 in
set_option maxRecDepth 100000 in
theorem c_X2_takeCut {l : Launch} {D : va_G} {ad : Nat → Nat} {cy : Nat → ClassId} {n : zS} {x1 : Int32} {r0 : Int32} {n' : zS} (hf : f_X2_takeCut n x1 = some (r0, n')) : zMI l yX2_takeCut (zW yX2_takeCut cX2_takeCut 2 (some .int)) { frames := 2, cells := 0, slots := 0, locals := 48 } D cy [.ref (ad 0), .int x1] (wdW ad cy n) r0 (wdW ad cy n') := by
  unfold f_X2_takeCut at hf
  refine zEI (ty := .int) (by decide) (Nat.le_of_ble_eq_true rfl) ?_
  intro p e s9 m9 below meth c A Q C0 hret ls hl hP hD
  have hl : lv_has ls 2 [(0, .ref (ad 0)), (1, .int x1)] := hl
  have hS : va_S A s9.heap s9.heap [] := va_S.rf
  obtain ⟨hx, hb, hml, hown, hts⟩ := id C0.1
  refine lv_iload_n hx hb dX2_takeCut_0 rfl (lv_at hl 1 rfl) ?_
  obtain ⟨r2, hc1, hf⟩ := zq_b1_s hf
  refine zNI (ws' := (wdW ad cy n)) (rest := []) C0 (fun _ h => h) zF.nil (c_X3_isCut hc1) hP hD hS my_X3_isCut C0.2.2.2.2.2.2.1 ⟨rfl, rfl⟩ ⟨Nat.le_of_ble_eq_true rfl, Nat.le_of_ble_eq_true rfl⟩ rfl hl.1 rfl (Nat.le_of_ble_eq_true rfl) dX2_takeCut_1 ⟨Nat.zero_le _, Nat.zero_le _⟩ (fun H locs hP hD hS => ?_)
  refine lv_if_ne (tgt := 10) hx hb dX2_takeCut_4 (by decide) (fun c3 => ?_) (fun c3 => ?_)
  · have hf := it_f c3 hf
    refine lv_aload_n hx hb dX2_takeCut_10 rfl (lv_at hl 0 rfl) ?_
    refine lv_iload_n hx hb dX2_takeCut_11 rfl (lv_at hl 1 rfl) ?_
    obtain ⟨n5, hc4, hf⟩ := zq_b1_s hf
    refine zVV (ws' := (wdW ad cy n5)) (rest := []) C0 (fun _ h => h) zF.id (c_X2_layFrame hc4) hP hD hS my_X2_layFrame kl_X2_79 ⟨rfl, rfl⟩ ⟨Nat.le_of_ble_eq_true rfl, Nat.le_of_ble_eq_true rfl⟩ (q0 := 0) (ci := 2) rfl wdW_0 rfl hl.1 rfl (Nat.le_of_ble_eq_true rfl) dX2_takeCut_12 ⟨Nat.zero_le _, Nat.zero_le _⟩ (fun H locs hP hD hS => ?_)
    refine lv_iconst (v := 2) hx hb dX2_takeCut_15 (by decide) ?_
    obtain ⟨rfl, rfl⟩ := zq_j2 hf
    exact hret _ _ _ _ rfl dX2_takeCut_16 hP hD hS
  · have hf := it_t c3 hf
    refine lv_bipush (v := 6) hx hb dX2_takeCut_7 (by decide) ?_
    obtain ⟨rfl, rfl⟩ := zq_j2 hf
    exact hret _ _ _ _ rfl dX2_takeCut_9 hP hD hS

def f_X2_addModule (n : zS) (x1 : Int32) : Option (Int32 × zS) :=
  if (n 8 0) < 4 then (
  zq_in 4 (n 8 0) (zq_lt (va_up n 0 (upd (n 0) (Int32.toNatClampNeg (n 8 0)) x1)) (fun n3 =>
  zq_in 4 (n3 8 0) (zq_lt (va_up n3 1 (upd (n3 1) (Int32.toNatClampNeg (n3 8 0)) (n3 9 0))) (fun n5 =>
  zq_in 4 (n5 8 0) (zq_lt (va_up n5 2 (upd (n5 2) (Int32.toNatClampNeg (n5 8 0)) 0)) (fun n7 =>
  zq_in 4 (n7 8 0) (zq_lt (va_up n7 3 (upd (n7 3) (Int32.toNatClampNeg (n7 8 0)) (vp_nar .boolean 0))) (fun n9 =>
  zq_lt (va_up n9 8 (fun _ => ((n9 8 0) + 1))) (fun n10 =>
  some (4, n10))))))))))) else (
  some (6, n))
set_option maxHeartbeats 4000000 in
set_option maxRecDepth 100000 in
theorem c_X2_addModule {l : Launch} {D : va_G} {ad : Nat → Nat} {cy : Nat → ClassId} {n : zS} {x1 : Int32} {r0 : Int32} {n' : zS} (hf : f_X2_addModule n x1 = some (r0, n')) : zMI l yX2_addModule (zW yX2_addModule cX2_addModule 2 (some .int)) { frames := 0, cells := 0, slots := 0, locals := 0 } D cy [.ref (ad 0), .int x1] (wdW ad cy n) r0 (wdW ad cy n') := by
  unfold f_X2_addModule at hf
  refine zEI (ty := .int) (by decide) (Nat.le_of_ble_eq_true rfl) ?_
  intro p e s9 m9 below meth c A Q C0 hret ls hl hP hD
  have hl : lv_has ls 2 [(0, .ref (ad 0)), (1, .int x1)] := hl
  have hS : va_S A s9.heap s9.heap [] := va_S.rf
  obtain ⟨hx, hb, hml, hown, hts⟩ := id C0.1
  refine lv_aload_n hx hb dX2_addModule_0 rfl (lv_at hl 0 rfl) ?_
  refine gf_X2_37 C0 hP 0 wdW_0 rfl dX2_addModule_1 ?_
  refine lv_iconst (v := 4) hx hb dX2_addModule_4 (by decide) ?_
  refine lv_icmp_lt (tgt := 11) hx hb dX2_addModule_5 (by decide) (fun c1 => ?_) (fun c1 => ?_)
  · have hf := it_t c1 hf
    refine lv_aload_n hx hb dX2_addModule_11 rfl (lv_at hl 0 rfl) ?_
    refine gf_X2_9 C0 hP 0 wdW_0 rfl dX2_addModule_12 ?_
    refine lv_aload_n hx hb dX2_addModule_15 rfl (lv_at hl 0 rfl) ?_
    refine gf_X2_37 C0 hP 0 wdW_0 rfl dX2_addModule_16 ?_
    refine lv_iload_n hx hb dX2_addModule_19 rfl (lv_at hl 1 rfl) ?_
    obtain ⟨h2, hf⟩ := zq_in_s hf
    obtain ⟨n3, en3, hf⟩ := zq_lt_s hf
    refine zis (ws' := (wdW ad cy n3)) C0 hP hD hS 1 wdW_1 h2 (by rw [en3]; rfl) dX2_addModule_20 (fun H locs hP hD hS => ?_)
    refine lv_aload_n hx hb dX2_addModule_21 rfl (lv_at hl 0 rfl) ?_
    refine gf_X2_15 C0 hP 0 wdW_0 rfl dX2_addModule_22 ?_
    refine lv_aload_n hx hb dX2_addModule_25 rfl (lv_at hl 0 rfl) ?_
    refine gf_X2_37 C0 hP 0 wdW_0 rfl dX2_addModule_26 ?_
    refine lv_aload_n hx hb dX2_addModule_29 rfl (lv_at hl 0 rfl) ?_
    refine gf_X2_41 C0 hP 0 wdW_0 rfl dX2_addModule_30 ?_
    obtain ⟨h4, hf⟩ := zq_in_s hf
    obtain ⟨n5, en5, hf⟩ := zq_lt_s hf
    refine zis (ws' := (wdW ad cy n5)) C0 hP hD hS 2 wdW_2 h4 (by rw [en5]; rfl) dX2_addModule_33 (fun H locs hP hD hS => ?_)
    refine lv_aload_n hx hb dX2_addModule_34 rfl (lv_at hl 0 rfl) ?_
    refine gf_X2_18 C0 hP 0 wdW_0 rfl dX2_addModule_35 ?_
    refine lv_aload_n hx hb dX2_addModule_38 rfl (lv_at hl 0 rfl) ?_
    refine gf_X2_37 C0 hP 0 wdW_0 rfl dX2_addModule_39 ?_
    refine lv_iconst (v := 0) hx hb dX2_addModule_42 (by decide) ?_
    obtain ⟨h6, hf⟩ := zq_in_s hf
    obtain ⟨n7, en7, hf⟩ := zq_lt_s hf
    refine zis (ws' := (wdW ad cy n7)) C0 hP hD hS 3 wdW_3 h6 (by rw [en7]; rfl) dX2_addModule_43 (fun H locs hP hD hS => ?_)
    refine lv_aload_n hx hb dX2_addModule_44 rfl (lv_at hl 0 rfl) ?_
    refine gf_X2_21 C0 hP 0 wdW_0 rfl dX2_addModule_45 ?_
    refine lv_aload_n hx hb dX2_addModule_48 rfl (lv_at hl 0 rfl) ?_
    refine gf_X2_37 C0 hP 0 wdW_0 rfl dX2_addModule_49 ?_
    refine lv_iconst (v := 0) hx hb dX2_addModule_52 (by decide) ?_
    obtain ⟨h8, hf⟩ := zq_in_s hf
    obtain ⟨n9, en9, hf⟩ := zq_lt_s hf
    refine zzs (ws' := (wdW ad cy n9)) C0 hP hD hS 4 wdW_4 h8 (by rw [en9]; rfl) dX2_addModule_53 (fun H locs hP hD hS => ?_)
    refine lv_aload_n hx hb dX2_addModule_54 rfl (lv_at hl 0 rfl) ?_
    refine lv_dup hx hb dX2_addModule_55 rfl ?_
    refine gf_X2_37 C0 hP 0 wdW_0 rfl dX2_addModule_56 ?_
    refine lv_iconst (v := 1) hx hb dX2_addModule_59 (by decide) ?_
    refine lv_iadd hx hb dX2_addModule_60 ?_
    obtain ⟨n10, en10, hf⟩ := zq_lt_s hf
    refine pf_X2_37 (ws' := (wdW ad cy n10)) C0 hP hD hS 0 wdW_0 (Nat.le_of_ble_eq_true rfl) (by rw [en10]; rfl) dX2_addModule_61 (fun H locs hP hD hS => ?_)
    refine lv_iconst (v := 4) hx hb dX2_addModule_64 (by decide) ?_
    obtain ⟨rfl, rfl⟩ := zq_j2 hf
    exact hret _ _ _ _ rfl dX2_addModule_65 hP hD hS
  · have hf := it_f c1 hf
    refine lv_bipush (v := 6) hx hb dX2_addModule_8 (by decide) ?_
    obtain ⟨rfl, rfl⟩ := zq_j2 hf
    exact hret _ _ _ _ rfl dX2_addModule_10 hP hD hS

def f_X2_takeLetter (n : zS) (x1 : Int32) : Option (Int32 × zS) :=
  if x1 = 98 then (
  zq_b2 (f_X2_addModule n 2) (fun r3 n4 =>
  some (r3, n4))) else (
  if x1 = 104 then (
  zq_b2 (f_X2_addModule n 1) (fun r7 n8 =>
  some (r7, n8))) else (
  if x1 = 112 then (
  zq_b2 (f_X2_addModule n 0) (fun r11 n12 =>
  some (r11, n12))) else (
  some (6, n))))
set_option maxHeartbeats 4000000 in
set_option maxRecDepth 100000 in
theorem c_X2_takeLetter {l : Launch} {D : va_G} {ad : Nat → Nat} {cy : Nat → ClassId} {n : zS} {x1 : Int32} {r0 : Int32} {n' : zS} (hf : f_X2_takeLetter n x1 = some (r0, n')) : zMI l yX2_takeLetter (zW yX2_takeLetter cX2_takeLetter 2 (some .int)) { frames := 1, cells := 0, slots := 0, locals := 21 } D cy [.ref (ad 0), .int x1] (wdW ad cy n) r0 (wdW ad cy n') := by
  unfold f_X2_takeLetter at hf
  refine zEI (ty := .int) (by decide) (Nat.le_of_ble_eq_true rfl) ?_
  intro p e s9 m9 below meth c A Q C0 hret ls hl hP hD
  have hl : lv_has ls 2 [(0, .ref (ad 0)), (1, .int x1)] := hl
  have hS : va_S A s9.heap s9.heap [] := va_S.rf
  obtain ⟨hx, hb, hml, hown, hts⟩ := id C0.1
  refine lv_iload_n hx hb dX2_takeLetter_0 rfl (lv_at hl 1 rfl) ?_
  by_cases c1 : x1 = 98
  · have hf := it_t c1 hf
    refine lv_lookup (off := 47) (tgt := 48) hx hb dX2_takeLetter_1 (by decide) (by rw [c1]; rfl) (by decide) ?_
    refine lv_aload_n hx hb dX2_takeLetter_48 rfl (lv_at hl 0 rfl) ?_
    refine lv_iconst (v := 2) hx hb dX2_takeLetter_49 (by decide) ?_
    obtain ⟨r3, n4, hc2, hf⟩ := zq_b2_s hf
    refine zVI (ws' := (wdW ad cy n4)) (rest := []) C0 (fun _ h => h) zF.id (c_X2_addModule hc2) hP hD hS my_X2_addModule kl_X2_83 ⟨rfl, rfl⟩ ⟨Nat.le_of_ble_eq_true rfl, Nat.le_of_ble_eq_true rfl⟩ (q0 := 0) (ci := 2) rfl wdW_0 rfl hl.1 rfl (Nat.le_of_ble_eq_true rfl) dX2_takeLetter_50 ⟨Nat.zero_le _, Nat.zero_le _⟩ (fun H locs hP hD hS => ?_)
    obtain ⟨rfl, rfl⟩ := zq_j2 hf
    exact hret _ _ _ _ rfl dX2_takeLetter_53 hP hD hS
  have hf := it_f c1 hf
  by_cases c5 : x1 = 104
  · have hf := it_t c5 hf
    refine lv_lookup (off := 41) (tgt := 42) hx hb dX2_takeLetter_1 (by decide) (by rw [c5]; rfl) (by decide) ?_
    refine lv_aload_n hx hb dX2_takeLetter_42 rfl (lv_at hl 0 rfl) ?_
    refine lv_iconst (v := 1) hx hb dX2_takeLetter_43 (by decide) ?_
    obtain ⟨r7, n8, hc6, hf⟩ := zq_b2_s hf
    refine zVI (ws' := (wdW ad cy n8)) (rest := []) C0 (fun _ h => h) zF.id (c_X2_addModule hc6) hP hD hS my_X2_addModule kl_X2_83 ⟨rfl, rfl⟩ ⟨Nat.le_of_ble_eq_true rfl, Nat.le_of_ble_eq_true rfl⟩ (q0 := 0) (ci := 2) rfl wdW_0 rfl hl.1 rfl (Nat.le_of_ble_eq_true rfl) dX2_takeLetter_44 ⟨Nat.zero_le _, Nat.zero_le _⟩ (fun H locs hP hD hS => ?_)
    obtain ⟨rfl, rfl⟩ := zq_j2 hf
    exact hret _ _ _ _ rfl dX2_takeLetter_47 hP hD hS
  have hf := it_f c5 hf
  by_cases c9 : x1 = 112
  · have hf := it_t c9 hf
    refine lv_lookup (off := 35) (tgt := 36) hx hb dX2_takeLetter_1 (by decide) (by rw [c9]; rfl) (by decide) ?_
    refine lv_aload_n hx hb dX2_takeLetter_36 rfl (lv_at hl 0 rfl) ?_
    refine lv_iconst (v := 0) hx hb dX2_takeLetter_37 (by decide) ?_
    obtain ⟨r11, n12, hc10, hf⟩ := zq_b2_s hf
    refine zVI (ws' := (wdW ad cy n12)) (rest := []) C0 (fun _ h => h) zF.id (c_X2_addModule hc10) hP hD hS my_X2_addModule kl_X2_83 ⟨rfl, rfl⟩ ⟨Nat.le_of_ble_eq_true rfl, Nat.le_of_ble_eq_true rfl⟩ (q0 := 0) (ci := 2) rfl wdW_0 rfl hl.1 rfl (Nat.le_of_ble_eq_true rfl) dX2_takeLetter_38 ⟨Nat.zero_le _, Nat.zero_le _⟩ (fun H locs hP hD hS => ?_)
    obtain ⟨rfl, rfl⟩ := zq_j2 hf
    exact hret _ _ _ _ rfl dX2_takeLetter_41 hP hD hS
  have hf := it_f c9 hf
  refine lv_lookup (off := 53) (tgt := 54) hx hb dX2_takeLetter_1 (by decide) ((lv_osw c1 (by decide)).trans ((lv_osw c5 (by decide)).trans ((lv_osw c9 (by decide)).trans rfl))) (by decide) ?_
  refine lv_bipush (v := 6) hx hb dX2_takeLetter_54 (by decide) ?_
  obtain ⟨rfl, rfl⟩ := zq_j2 hf
  exact hret _ _ _ _ rfl dX2_takeLetter_56 hP hD hS

def f_X3_isLevel  (x0 : Int32) : Option (Int32) :=
  if x0 < 0 then (
  some 0) else (
  if 9 < x0 then (
  some 0) else (
  some 1))
set_option maxHeartbeats 4000000 in
set_option maxRecDepth 100000 in
theorem c_X3_isLevel {l : Launch} {D : va_G} {cy : Nat → ClassId}   {x0 : Int32} {r0 : Int32} (hf : f_X3_isLevel x0 = some r0) : zMI l yX3_isLevel (zW yX3_isLevel cX3_isLevel 1 (some .boolean)) { frames := 0, cells := 0, slots := 0, locals := 0 } D cy [.int x0] [] r0 [] := by
  unfold f_X3_isLevel at hf
  refine zEI (ty := .boolean) (by decide) (Nat.le_of_ble_eq_true rfl) ?_
  intro p e s9 m9 below meth c A Q C0 hret ls hl hP hD
  have hl : lv_has ls 1 [(0, .int x0)] := hl
  have hS : va_S A s9.heap s9.heap [] := va_S.rf
  obtain ⟨hx, hb, hml, hown, hts⟩ := id C0.1
  refine lv_iload_n hx hb dX3_isLevel_0 rfl (lv_at hl 0 rfl) ?_
  refine lv_if_lt (tgt := 14) hx hb dX3_isLevel_1 (by decide) (fun c1 => ?_) (fun c1 => ?_)
  · have hf := it_t c1 hf
    refine lv_iconst (v := 0) hx hb dX3_isLevel_14 (by decide) ?_
    obtain rfl := Option.some.inj hf
    exact hret _ _ _ _ rfl dX3_isLevel_15 hP hD hS
  · have hf := it_f c1 hf
    refine lv_iload_n hx hb dX3_isLevel_4 rfl (lv_at hl 0 rfl) ?_
    refine lv_bipush (v := 9) hx hb dX3_isLevel_5 (by decide) ?_
    refine lv_icmp_gt (tgt := 14) hx hb dX3_isLevel_7 (by decide) (fun c2 => ?_) (fun c2 => ?_)
    · have hf := it_t c2 hf
      refine lv_iconst (v := 0) hx hb dX3_isLevel_14 (by decide) ?_
      obtain rfl := Option.some.inj hf
      exact hret _ _ _ _ rfl dX3_isLevel_15 hP hD hS
    · have hf := it_f c2 hf
      refine lv_iconst (v := 1) hx hb dX3_isLevel_10 (by decide) ?_
      refine lv_goto (tgt := 15) hx hb dX3_isLevel_11 (by decide) ?_
      obtain rfl := Option.some.inj hf
      exact hret _ _ _ _ rfl dX3_isLevel_15 hP hD hS

def f_X2_takeLevel (n : zS) (x1 : Int32) : Option (Int32 × zS) :=
  zq_b1 (f_X3_isLevel x1) (fun r2 =>
  if r2 = 0 then (
  some (6, n)) else (
  if ((n 8 0) - 1) < 0 then (
  some (6, n)) else (
  zq_rd (n 2) 4 ((n 8 0) - 1) (fun v5 =>
  if 4 ≤ v5 then (
  some (6, n)) else (
  if (n 9 0) < 16 then (
  zq_in 16 (n 9 0) (zq_lt (va_up n 4 (upd (n 4) (Int32.toNatClampNeg (n 9 0)) x1)) (fun n10 =>
  zq_in 16 (n10 9 0) (zq_lt (va_up n10 5 (upd (n10 5) (Int32.toNatClampNeg (n10 9 0)) ((n 8 0) - 1))) (fun n12 =>
  zq_lt (va_up n12 9 (fun _ => ((n12 9 0) + 1))) (fun n13 =>
  zq_rd (n13 2) 4 ((n 8 0) - 1) (fun v14 =>
  zq_in 4 ((n 8 0) - 1) (zq_lt (va_up n13 2 (upd (n13 2) (Int32.toNatClampNeg ((n 8 0) - 1)) (v14 + 1))) (fun n17 =>
  some (5, n17)))))))))) else (
  some (6, n)))))))
set_option maxHeartbeats 4000000 in
set_option maxRecDepth 100000 in
theorem c_X2_takeLevel {l : Launch} {D : va_G} {ad : Nat → Nat} {cy : Nat → ClassId} {n : zS} {x1 : Int32} {r0 : Int32} {n' : zS} (hf : f_X2_takeLevel n x1 = some (r0, n')) : zMI l yX2_takeLevel (zW yX2_takeLevel cX2_takeLevel 3 (some .int)) { frames := 1, cells := 0, slots := 0, locals := 20 } D cy [.ref (ad 0), .int x1] (wdW ad cy n) r0 (wdW ad cy n') := by
  unfold f_X2_takeLevel at hf
  refine zEI (ty := .int) (by decide) (Nat.le_of_ble_eq_true rfl) ?_
  intro p e s9 m9 below meth c A Q C0 hret ls hl hP hD
  have hl : lv_has ls 3 [(0, .ref (ad 0)), (1, .int x1)] := hl
  have hS : va_S A s9.heap s9.heap [] := va_S.rf
  obtain ⟨hx, hb, hml, hown, hts⟩ := id C0.1
  refine lv_aload_n hx hb dX2_takeLevel_0 rfl (lv_at hl 0 rfl) ?_
  refine gf_X2_37 C0 hP 0 wdW_0 rfl dX2_takeLevel_1 ?_
  refine lv_iconst (v := 1) hx hb dX2_takeLevel_4 (by decide) ?_
  refine lv_isub hx hb dX2_takeLevel_5 ?_
  refine lv_istore_n (lv' := [(2, .int ((n 8 0) - 1)), (0, .ref (ad 0)), (1, .int x1)]) hx hb dX2_takeLevel_6 rfl hl (by decide) rfl (fun ls hl => ?_)
  refine lv_iload_n hx hb dX2_takeLevel_7 rfl (lv_at hl 2 rfl) ?_
  obtain ⟨r2, hc1, hf⟩ := zq_b1_s hf
  refine zNI (ws' := (wdW ad cy n)) (rest := []) C0 (fun _ h => h) zF.nil (c_X3_isLevel hc1) hP hD hS my_X3_isLevel C0.2.2.2.2.2.2.2.1 ⟨rfl, rfl⟩ ⟨Nat.le_of_ble_eq_true rfl, Nat.le_of_ble_eq_true rfl⟩ rfl hl.1 rfl (Nat.le_of_ble_eq_true rfl) dX2_takeLevel_8 ⟨Nat.zero_le _, Nat.zero_le _⟩ (fun H locs hP hD hS => ?_)
  refine lv_if_eq (tgt := 37) hx hb dX2_takeLevel_11 (by decide) (fun c3 => ?_) (fun c3 => ?_)
  · have hf := it_t c3 hf
    refine lv_bipush (v := 6) hx hb dX2_takeLevel_37 (by decide) ?_
    obtain ⟨rfl, rfl⟩ := zq_j2 hf
    exact hret _ _ _ _ rfl dX2_takeLevel_39 hP hD hS
  · have hf := it_f c3 hf
    refine lv_iload_n hx hb dX2_takeLevel_14 rfl (lv_at hl 0 rfl) ?_
    refine lv_if_lt (tgt := 37) hx hb dX2_takeLevel_15 (by decide) (fun c4 => ?_) (fun c4 => ?_)
    · have hf := it_t c4 hf
      refine lv_bipush (v := 6) hx hb dX2_takeLevel_37 (by decide) ?_
      obtain ⟨rfl, rfl⟩ := zq_j2 hf
      exact hret _ _ _ _ rfl dX2_takeLevel_39 hP hD hS
    · have hf := it_f c4 hf
      refine lv_aload_n hx hb dX2_takeLevel_18 rfl (lv_at hl 1 rfl) ?_
      refine gf_X2_18 C0 hP 0 wdW_0 rfl dX2_takeLevel_19 ?_
      refine lv_iload_n hx hb dX2_takeLevel_22 rfl (lv_at hl 0 rfl) ?_
      obtain ⟨v5, ev5, h6, hf⟩ := zq_rd_s hf
      refine zia C0 hP 3 wdW_3 ev5 h6 dX2_takeLevel_23 ?_
      refine lv_iconst (v := 4) hx hb dX2_takeLevel_24 (by decide) ?_
      refine lv_icmp_ge (tgt := 37) hx hb dX2_takeLevel_25 (by decide) (fun c7 => ?_) (fun c7 => ?_)
      · have hf := it_t c7 hf
        refine lv_bipush (v := 6) hx hb dX2_takeLevel_37 (by decide) ?_
        obtain ⟨rfl, rfl⟩ := zq_j2 hf
        exact hret _ _ _ _ rfl dX2_takeLevel_39 hP hD hS
      · have hf := it_f c7 hf
        refine lv_aload_n hx hb dX2_takeLevel_28 rfl (lv_at hl 1 rfl) ?_
        refine gf_X2_41 C0 hP 0 wdW_0 rfl dX2_takeLevel_29 ?_
        refine lv_bipush (v := 16) hx hb dX2_takeLevel_32 (by decide) ?_
        refine lv_icmp_lt (tgt := 40) hx hb dX2_takeLevel_34 (by decide) (fun c8 => ?_) (fun c8 => ?_)
        · have hf := it_t c8 hf
          refine lv_aload_n hx hb dX2_takeLevel_40 rfl (lv_at hl 1 rfl) ?_
          refine gf_X2_25 C0 hP 0 wdW_0 rfl dX2_takeLevel_41 ?_
          refine lv_aload_n hx hb dX2_takeLevel_44 rfl (lv_at hl 1 rfl) ?_
          refine gf_X2_41 C0 hP 0 wdW_0 rfl dX2_takeLevel_45 ?_
          refine lv_iload_n hx hb dX2_takeLevel_48 rfl (lv_at hl 2 rfl) ?_
          obtain ⟨h9, hf⟩ := zq_in_s hf
          obtain ⟨n10, en10, hf⟩ := zq_lt_s hf
          refine zis (ws' := (wdW ad cy n10)) C0 hP hD hS 5 wdW_5 h9 (by rw [en10]; rfl) dX2_takeLevel_49 (fun H locs hP hD hS => ?_)
          refine lv_aload_n hx hb dX2_takeLevel_50 rfl (lv_at hl 1 rfl) ?_
          refine gf_X2_28 C0 hP 0 wdW_0 rfl dX2_takeLevel_51 ?_
          refine lv_aload_n hx hb dX2_takeLevel_54 rfl (lv_at hl 1 rfl) ?_
          refine gf_X2_41 C0 hP 0 wdW_0 rfl dX2_takeLevel_55 ?_
          refine lv_iload_n hx hb dX2_takeLevel_58 rfl (lv_at hl 0 rfl) ?_
          obtain ⟨h11, hf⟩ := zq_in_s hf
          obtain ⟨n12, en12, hf⟩ := zq_lt_s hf
          refine zis (ws' := (wdW ad cy n12)) C0 hP hD hS 6 wdW_6 h11 (by rw [en12]; rfl) dX2_takeLevel_59 (fun H locs hP hD hS => ?_)
          refine lv_aload_n hx hb dX2_takeLevel_60 rfl (lv_at hl 1 rfl) ?_
          refine lv_dup hx hb dX2_takeLevel_61 rfl ?_
          refine gf_X2_41 C0 hP 0 wdW_0 rfl dX2_takeLevel_62 ?_
          refine lv_iconst (v := 1) hx hb dX2_takeLevel_65 (by decide) ?_
          refine lv_iadd hx hb dX2_takeLevel_66 ?_
          obtain ⟨n13, en13, hf⟩ := zq_lt_s hf
          refine pf_X2_41 (ws' := (wdW ad cy n13)) C0 hP hD hS 0 wdW_0 (Nat.le_of_ble_eq_true rfl) (by rw [en13]; rfl) dX2_takeLevel_67 (fun H locs hP hD hS => ?_)
          refine lv_aload_n hx hb dX2_takeLevel_70 rfl (lv_at hl 1 rfl) ?_
          refine gf_X2_18 C0 hP 0 wdW_0 rfl dX2_takeLevel_71 ?_
          refine lv_iload_n hx hb dX2_takeLevel_74 rfl (lv_at hl 0 rfl) ?_
          refine lv_dup2_11 hx hb dX2_takeLevel_75 rfl rfl ?_
          obtain ⟨v14, ev14, h15, hf⟩ := zq_rd_s hf
          refine zia C0 hP 3 wdW_3 ev14 h15 dX2_takeLevel_76 ?_
          refine lv_iconst (v := 1) hx hb dX2_takeLevel_77 (by decide) ?_
          refine lv_iadd hx hb dX2_takeLevel_78 ?_
          obtain ⟨h16, hf⟩ := zq_in_s hf
          obtain ⟨n17, en17, hf⟩ := zq_lt_s hf
          refine zis (ws' := (wdW ad cy n17)) C0 hP hD hS 3 wdW_3 h16 (by rw [en17]; rfl) dX2_takeLevel_79 (fun H locs hP hD hS => ?_)
          refine lv_iconst (v := 5) hx hb dX2_takeLevel_80 (by decide) ?_
          obtain ⟨rfl, rfl⟩ := zq_j2 hf
          exact hret _ _ _ _ rfl dX2_takeLevel_81 hP hD hS
        · have hf := it_f c8 hf
          refine lv_bipush (v := 6) hx hb dX2_takeLevel_37 (by decide) ?_
          obtain ⟨rfl, rfl⟩ := zq_j2 hf
          exact hret _ _ _ _ rfl dX2_takeLevel_39 hP hD hS

def f_X2_takeMore (n : zS) (x1 : Int32) : Option (Int32 × zS) :=
  if x1 = 59 then (
  if 4 ≤ (n 8 0) then (
  some (6, n)) else (
  some (3, n))) else (
  zq_b2 (f_X2_takeLevel n (x1 - 48)) (fun r3 n4 =>
  some (r3, n4)))
set_option maxHeartbeats 4000000 in
set_option maxRecDepth 100000 in
theorem c_X2_takeMore {l : Launch} {D : va_G} {ad : Nat → Nat} {cy : Nat → ClassId} {n : zS} {x1 : Int32} {r0 : Int32} {n' : zS} (hf : f_X2_takeMore n x1 = some (r0, n')) : zMI l yX2_takeMore (zW yX2_takeMore cX2_takeMore 2 (some .int)) { frames := 2, cells := 0, slots := 0, locals := 42 } D cy [.ref (ad 0), .int x1] (wdW ad cy n) r0 (wdW ad cy n') := by
  unfold f_X2_takeMore at hf
  refine zEI (ty := .int) (by decide) (Nat.le_of_ble_eq_true rfl) ?_
  intro p e s9 m9 below meth c A Q C0 hret ls hl hP hD
  have hl : lv_has ls 2 [(0, .ref (ad 0)), (1, .int x1)] := hl
  have hS : va_S A s9.heap s9.heap [] := va_S.rf
  obtain ⟨hx, hb, hml, hown, hts⟩ := id C0.1
  refine lv_iload_n hx hb dX2_takeMore_0 rfl (lv_at hl 1 rfl) ?_
  refine lv_bipush (v := 59) hx hb dX2_takeMore_1 (by decide) ?_
  refine lv_icmp_ne (tgt := 21) hx hb dX2_takeMore_3 (by decide) (fun c1 => ?_) (fun c1 => ?_)
  · have hf := it_f c1 hf
    refine lv_aload_n hx hb dX2_takeMore_21 rfl (lv_at hl 0 rfl) ?_
    refine lv_iload_n hx hb dX2_takeMore_22 rfl (lv_at hl 1 rfl) ?_
    refine lv_bipush (v := 48) hx hb dX2_takeMore_23 (by decide) ?_
    refine lv_isub hx hb dX2_takeMore_25 ?_
    obtain ⟨r3, n4, hc2, hf⟩ := zq_b2_s hf
    refine zVI (ws' := (wdW ad cy n4)) (rest := []) C0 (fun _ h => h) zF.id (c_X2_takeLevel hc2) hP hD hS my_X2_takeLevel kl_X2_69 ⟨rfl, rfl⟩ ⟨Nat.le_of_ble_eq_true rfl, Nat.le_of_ble_eq_true rfl⟩ (q0 := 0) (ci := 2) rfl wdW_0 rfl hl.1 rfl (Nat.le_of_ble_eq_true rfl) dX2_takeMore_26 ⟨Nat.zero_le _, Nat.zero_le _⟩ (fun H locs hP hD hS => ?_)
    obtain ⟨rfl, rfl⟩ := zq_j2 hf
    exact hret _ _ _ _ rfl dX2_takeMore_29 hP hD hS
  · have hf := it_t c1 hf
    refine lv_aload_n hx hb dX2_takeMore_6 rfl (lv_at hl 0 rfl) ?_
    refine gf_X2_37 C0 hP 0 wdW_0 rfl dX2_takeMore_7 ?_
    refine lv_iconst (v := 4) hx hb dX2_takeMore_10 (by decide) ?_
    refine lv_icmp_ge (tgt := 18) hx hb dX2_takeMore_11 (by decide) (fun c5 => ?_) (fun c5 => ?_)
    · have hf := it_t c5 hf
      refine lv_bipush (v := 6) hx hb dX2_takeMore_18 (by decide) ?_
      obtain ⟨rfl, rfl⟩ := zq_j2 hf
      exact hret _ _ _ _ rfl dX2_takeMore_20 hP hD hS
    · have hf := it_f c5 hf
      refine lv_iconst (v := 3) hx hb dX2_takeMore_14 (by decide) ?_
      refine lv_goto (tgt := 20) hx hb dX2_takeMore_15 (by decide) ?_
      obtain ⟨rfl, rfl⟩ := zq_j2 hf
      exact hret _ _ _ _ rfl dX2_takeMore_20 hP hD hS

def f_X2_takeCode (n : zS) (x1 : Int32) (x2 : Int32) : Option (Int32 × zS) :=
  if x1 = 0 then (
  if x2 = 119 then (
  some (1, n)) else (
  some (6, n))) else (
  if x1 = 1 then (
  zq_b2 (f_X2_takeCut n (x2 - 48)) (fun r5 n6 =>
  some (r5, n6))) else (
  if x1 = 2 then (
  if x2 = 59 then (
  some (3, n)) else (
  some (6, n))) else (
  if x1 = 3 then (
  zq_b2 (f_X2_takeLetter n x2) (fun r11 n12 =>
  some (r11, n12))) else (
  if x1 = 4 then (
  zq_b2 (f_X2_takeLevel n (x2 - 48)) (fun r15 n16 =>
  some (r15, n16))) else (
  if x1 = 5 then (
  zq_b2 (f_X2_takeMore n x2) (fun r19 n20 =>
  some (r19, n20))) else (
  some (6, n)))))))
set_option maxHeartbeats 4000000 in
set_option maxRecDepth 100000 in
theorem c_X2_takeCode {l : Launch} {D : va_G} {ad : Nat → Nat} {cy : Nat → ClassId} {n : zS} {x1 : Int32} {x2 : Int32} {r0 : Int32} {n' : zS} (hf : f_X2_takeCode n x1 x2 = some (r0, n')) : zMI l yX2_takeCode (zW yX2_takeCode cX2_takeCode 3 (some .int)) { frames := 3, cells := 0, slots := 0, locals := 69 } D cy [.ref (ad 0), .int x1, .int x2] (wdW ad cy n) r0 (wdW ad cy n') := by
  unfold f_X2_takeCode at hf
  refine zEI (ty := .int) (by decide) (Nat.le_of_ble_eq_true rfl) ?_
  intro p e s9 m9 below meth c A Q C0 hret ls hl hP hD
  have hl : lv_has ls 3 [(0, .ref (ad 0)), (1, .int x1), (2, .int x2)] := hl
  have hS : va_S A s9.heap s9.heap [] := va_S.rf
  obtain ⟨hx, hb, hml, hown, hts⟩ := id C0.1
  refine lv_iload_n hx hb dX2_takeCode_0 rfl (lv_at hl 1 rfl) ?_
  by_cases c1 : x1 = 0
  · have hf := it_t c1 hf
    refine lv_tableIn (off := 39) (tgt := 40) hx hb dX2_takeCode_1 (by rw [c1]; decide) (by rw [c1]; decide) (by rw [c1]; rfl) (by decide) ?_
    refine lv_iload_n hx hb dX2_takeCode_40 rfl (lv_at hl 2 rfl) ?_
    refine lv_bipush (v := 119) hx hb dX2_takeCode_41 (by decide) ?_
    refine lv_icmp_ne (tgt := 50) hx hb dX2_takeCode_43 (by decide) (fun c2 => ?_) (fun c2 => ?_)
    · have hf := it_f c2 hf
      refine lv_bipush (v := 6) hx hb dX2_takeCode_50 (by decide) ?_
      obtain ⟨rfl, rfl⟩ := zq_j2 hf
      exact hret _ _ _ _ rfl dX2_takeCode_52 hP hD hS
    · have hf := it_t c2 hf
      refine lv_iconst (v := 1) hx hb dX2_takeCode_46 (by decide) ?_
      refine lv_goto (tgt := 52) hx hb dX2_takeCode_47 (by decide) ?_
      obtain ⟨rfl, rfl⟩ := zq_j2 hf
      exact hret _ _ _ _ rfl dX2_takeCode_52 hP hD hS
  have hf := it_f c1 hf
  by_cases c3 : x1 = 1
  · have hf := it_t c3 hf
    refine lv_tableIn (off := 52) (tgt := 53) hx hb dX2_takeCode_1 (by rw [c3]; decide) (by rw [c3]; decide) (by rw [c3]; rfl) (by decide) ?_
    refine lv_aload_n hx hb dX2_takeCode_53 rfl (lv_at hl 0 rfl) ?_
    refine lv_iload_n hx hb dX2_takeCode_54 rfl (lv_at hl 2 rfl) ?_
    refine lv_bipush (v := 48) hx hb dX2_takeCode_55 (by decide) ?_
    refine lv_isub hx hb dX2_takeCode_57 ?_
    obtain ⟨r5, n6, hc4, hf⟩ := zq_b2_s hf
    refine zVI (ws' := (wdW ad cy n6)) (rest := []) C0 (fun _ h => h) zF.id (c_X2_takeCut hc4) hP hD hS my_X2_takeCut kl_X2_62 ⟨rfl, rfl⟩ ⟨Nat.le_of_ble_eq_true rfl, Nat.le_of_ble_eq_true rfl⟩ (q0 := 0) (ci := 2) rfl wdW_0 rfl hl.1 rfl (Nat.le_of_ble_eq_true rfl) dX2_takeCode_58 ⟨Nat.zero_le _, Nat.zero_le _⟩ (fun H locs hP hD hS => ?_)
    obtain ⟨rfl, rfl⟩ := zq_j2 hf
    exact hret _ _ _ _ rfl dX2_takeCode_61 hP hD hS
  have hf := it_f c3 hf
  by_cases c7 : x1 = 2
  · have hf := it_t c7 hf
    refine lv_tableIn (off := 61) (tgt := 62) hx hb dX2_takeCode_1 (by rw [c7]; decide) (by rw [c7]; decide) (by rw [c7]; rfl) (by decide) ?_
    refine lv_iload_n hx hb dX2_takeCode_62 rfl (lv_at hl 2 rfl) ?_
    refine lv_bipush (v := 59) hx hb dX2_takeCode_63 (by decide) ?_
    refine lv_icmp_ne (tgt := 72) hx hb dX2_takeCode_65 (by decide) (fun c8 => ?_) (fun c8 => ?_)
    · have hf := it_f c8 hf
      refine lv_bipush (v := 6) hx hb dX2_takeCode_72 (by decide) ?_
      obtain ⟨rfl, rfl⟩ := zq_j2 hf
      exact hret _ _ _ _ rfl dX2_takeCode_74 hP hD hS
    · have hf := it_t c8 hf
      refine lv_iconst (v := 3) hx hb dX2_takeCode_68 (by decide) ?_
      refine lv_goto (tgt := 74) hx hb dX2_takeCode_69 (by decide) ?_
      obtain ⟨rfl, rfl⟩ := zq_j2 hf
      exact hret _ _ _ _ rfl dX2_takeCode_74 hP hD hS
  have hf := it_f c7 hf
  by_cases c9 : x1 = 3
  · have hf := it_t c9 hf
    refine lv_tableIn (off := 74) (tgt := 75) hx hb dX2_takeCode_1 (by rw [c9]; decide) (by rw [c9]; decide) (by rw [c9]; rfl) (by decide) ?_
    refine lv_aload_n hx hb dX2_takeCode_75 rfl (lv_at hl 0 rfl) ?_
    refine lv_iload_n hx hb dX2_takeCode_76 rfl (lv_at hl 2 rfl) ?_
    obtain ⟨r11, n12, hc10, hf⟩ := zq_b2_s hf
    refine zVI (ws' := (wdW ad cy n12)) (rest := []) C0 (fun _ h => h) zF.id (c_X2_takeLetter hc10) hP hD hS my_X2_takeLetter kl_X2_66 ⟨rfl, rfl⟩ ⟨Nat.le_of_ble_eq_true rfl, Nat.le_of_ble_eq_true rfl⟩ (q0 := 0) (ci := 2) rfl wdW_0 rfl hl.1 rfl (Nat.le_of_ble_eq_true rfl) dX2_takeCode_77 ⟨Nat.zero_le _, Nat.zero_le _⟩ (fun H locs hP hD hS => ?_)
    obtain ⟨rfl, rfl⟩ := zq_j2 hf
    exact hret _ _ _ _ rfl dX2_takeCode_80 hP hD hS
  have hf := it_f c9 hf
  by_cases c13 : x1 = 4
  · have hf := it_t c13 hf
    refine lv_tableIn (off := 80) (tgt := 81) hx hb dX2_takeCode_1 (by rw [c13]; decide) (by rw [c13]; decide) (by rw [c13]; rfl) (by decide) ?_
    refine lv_aload_n hx hb dX2_takeCode_81 rfl (lv_at hl 0 rfl) ?_
    refine lv_iload_n hx hb dX2_takeCode_82 rfl (lv_at hl 2 rfl) ?_
    refine lv_bipush (v := 48) hx hb dX2_takeCode_83 (by decide) ?_
    refine lv_isub hx hb dX2_takeCode_85 ?_
    obtain ⟨r15, n16, hc14, hf⟩ := zq_b2_s hf
    refine zVI (ws' := (wdW ad cy n16)) (rest := []) C0 (fun _ h => h) zF.id (c_X2_takeLevel hc14) hP hD hS my_X2_takeLevel kl_X2_69 ⟨rfl, rfl⟩ ⟨Nat.le_of_ble_eq_true rfl, Nat.le_of_ble_eq_true rfl⟩ (q0 := 0) (ci := 2) rfl wdW_0 rfl hl.1 rfl (Nat.le_of_ble_eq_true rfl) dX2_takeCode_86 ⟨Nat.zero_le _, Nat.zero_le _⟩ (fun H locs hP hD hS => ?_)
    obtain ⟨rfl, rfl⟩ := zq_j2 hf
    exact hret _ _ _ _ rfl dX2_takeCode_89 hP hD hS
  have hf := it_f c13 hf
  by_cases c17 : x1 = 5
  · have hf := it_t c17 hf
    refine lv_tableIn (off := 89) (tgt := 90) hx hb dX2_takeCode_1 (by rw [c17]; decide) (by rw [c17]; decide) (by rw [c17]; rfl) (by decide) ?_
    refine lv_aload_n hx hb dX2_takeCode_90 rfl (lv_at hl 0 rfl) ?_
    refine lv_iload_n hx hb dX2_takeCode_91 rfl (lv_at hl 2 rfl) ?_
    obtain ⟨r19, n20, hc18, hf⟩ := zq_b2_s hf
    refine zVI (ws' := (wdW ad cy n20)) (rest := []) C0 (fun _ h => h) zF.id (c_X2_takeMore hc18) hP hD hS my_X2_takeMore kl_X2_72 ⟨rfl, rfl⟩ ⟨Nat.le_of_ble_eq_true rfl, Nat.le_of_ble_eq_true rfl⟩ (q0 := 0) (ci := 2) rfl wdW_0 rfl hl.1 rfl (Nat.le_of_ble_eq_true rfl) dX2_takeCode_92 ⟨Nat.zero_le _, Nat.zero_le _⟩ (fun H locs hP hD hS => ?_)
    obtain ⟨rfl, rfl⟩ := zq_j2 hf
    exact hret _ _ _ _ rfl dX2_takeCode_95 hP hD hS
  have hf := it_f c17 hf
  refine lv_tableOut (tgt := 96) hx hb dX2_takeCode_1 (by have := lv_neT c1 (show (0 : Int32).toInt = 0 by decide); have := lv_neT c3 (show (1 : Int32).toInt = 1 by decide); have := lv_neT c7 (show (2 : Int32).toInt = 2 by decide); have := lv_neT c9 (show (3 : Int32).toInt = 3 by decide); have := lv_neT c13 (show (4 : Int32).toInt = 4 by decide); have := lv_neT c17 (show (5 : Int32).toInt = 5 by decide); omega) (by decide) ?_
  refine lv_bipush (v := 6) hx hb dX2_takeCode_96 (by decide) ?_
  obtain ⟨rfl, rfl⟩ := zq_j2 hf
  exact hret _ _ _ _ rfl dX2_takeCode_98 hP hD hS

def f_X2_readText_L16 (s : zS) (x2 : Int32) (x3 : Int32) : Nat → Int32 → Int32 → zS → Option ((Int32 × zS) ⊕ (Int32 × zS))
  | 0, _, _, _ => none
  | q9 + 1, x4, x5, n =>
  if x3 ≤ x5 then (
  some (Sum.inl (x4, n))) else (
  zq_rd (s 0) 60 (x2 + x5) (fun v4 =>
  zq_b2 (f_X2_takeCode n x4 v4) (fun r7 n8 =>
  if r7 = 6 then (
  some (Sum.inr (x5, n8))) else (
  f_X2_readText_L16 s x2 x3 q9 r7 (x5 + 1) n8))))
def f_X2_readText (n : zS) (s : zS) (x2 : Int32) (x3 : Int32) : Option (Int32 × zS) :=
  zq_lt (va_up n 8 (fun _ => 0)) (fun n1 =>
  zq_lt (va_up n1 9 (fun _ => 0)) (fun n2 =>
  zq_s2_2 (f_X2_readText_L16 s x2 x3 100 0 0 n2) (fun y11 n12 =>
  if y11 = 5 then (
  some ((-9), n12)) else (
  some (x3, n12))) (fun y14 n15 =>
  some (y14, n15))))
set_option maxHeartbeats 4000000 in
set_option maxRecDepth 100000 in
theorem w_X2_readText_L16 {l : Launch} {p : Program} {e : Env} {s9 : State} {m9 : MethodId} {ag : Array Value} {below : List Frame} {meth : Method} {c : Code} {A : Nat → Prop} {Q : State → Prop} {D : va_G} {ad : Nat → Nat} {cy : Nat → ClassId} {a2 : Nat → Nat} {s : zS} {x2 : Int32} {x3 : Int32} (C0 : zCx p s9 m9 ag c cX2_readText 6 RX2 D cy A)  {out : (Int32 × zS) ⊕ (Int32 × zS)} (e0 : ∀ (o4 : Int32) (no : zS), out = Sum.inl (o4, no) → ∀ (H : Heap) (locs : List Loc) (ls : Array Slot), va_P D vwCl (wdWS ad a2 cy no s) H → va_D A (wdWS ad a2 cy no s) → va_S A s9.heap H locs → lv_has ls 6 [(3, .int x3), (4, .int o4)] → W p l e { frames := 4, cells := 0, slots := 0, locals := 91 } s9 m9 ag below meth c H locs 0 0 Q (F0 m9 55 ls [])) (e1 : ∀ (o5 : Int32) (no : zS), out = Sum.inr (o5, no) → ∀ (H : Heap) (locs : List Loc) (ls : Array Slot), va_P D vwCl (wdWS ad a2 cy no s) H → va_D A (wdWS ad a2 cy no s) → va_S A s9.heap H locs → lv_has ls 6 [(5, .int o5)] → W p l e { frames := 4, cells := 0, slots := 0, locals := 91 } s9 m9 ag below meth c H locs 0 0 Q (F0 m9 46 ls [])) : ∀ (q9 : Nat) (x4 : Int32) (x5 : Int32) (n : zS), f_X2_readText_L16 s x2 x3 q9 x4 x5 n = some out → ∀ (H : Heap) (locs : List Loc) (ls : Array Slot), va_P D vwCl (wdWS ad a2 cy n s) H → va_D A (wdWS ad a2 cy n s) → va_S A s9.heap H locs → lv_has ls 6 [(0, .ref (ad 0)), (1, .ref (a2 0)), (2, .int x2), (3, .int x3), (4, .int x4), (5, .int x5)] → W p l e { frames := 4, cells := 0, slots := 0, locals := 91 } s9 m9 ag below meth c H locs 0 0 Q (F0 m9 16 ls []) := by
  obtain ⟨hx, hb, hml, hown, hts⟩ := id C0.1
  intro q9
  induction q9 with
  | zero =>
    intro x4 x5 n hf
    rw [f_X2_readText_L16] at hf
    cases hf
  | succ q9 ih =>
    intro x4 x5 n hf H locs ls hP hD hS hl
    rw [f_X2_readText_L16] at hf
    refine lv_iload hx hb dX2_readText_16 (lv_at hl 5 rfl) ?_
    refine lv_iload_n hx hb dX2_readText_18 rfl (lv_at hl 3 rfl) ?_
    refine lv_icmp_ge (tgt := 55) hx hb dX2_readText_19 (by decide) (fun c3 => ?_) (fun c3 => ?_)
    · have hf := it_t c3 hf
      exact e0 x4 n (Option.some.inj hf).symm _ _ _ hP hD hS (lv_sub hl [3, 4] rfl)
    · have hf := it_f c3 hf
      refine lv_aload_n hx hb dX2_readText_22 rfl (lv_at hl 0 rfl) ?_
      refine lv_iload hx hb dX2_readText_23 (lv_at hl 4 rfl) ?_
      refine lv_aload_n hx hb dX2_readText_25 rfl (lv_at hl 1 rfl) ?_
      refine gf_X2_53 C0 hP 9 wdWS_9 rfl dX2_readText_26 ?_
      refine lv_iload_n hx hb dX2_readText_29 rfl (lv_at hl 2 rfl) ?_
      refine lv_iload hx hb dX2_readText_30 (lv_at hl 5 rfl) ?_
      refine lv_iadd hx hb dX2_readText_32 ?_
      obtain ⟨v4, ev4, h5, hf⟩ := zq_rd_s hf
      refine zia C0 hP 10 wdWS_10 ev4 h5 dX2_readText_33 ?_
      obtain ⟨r7, n8, hc6, hf⟩ := zq_b2_s hf
      refine zVI (ws' := (wdWS ad a2 cy n8 s)) (rest := []) C0 (fun _ h => h) fWS_n (c_X2_takeCode hc6) hP hD hS my_X2_takeCode kl_X2_58 ⟨rfl, rfl⟩ ⟨Nat.le_of_ble_eq_true rfl, Nat.le_of_ble_eq_true rfl⟩ (q0 := 0) (ci := 2) rfl wdWS_0 rfl hl.1 rfl (Nat.le_of_ble_eq_true rfl) dX2_readText_34 ⟨Nat.zero_le _, Nat.zero_le _⟩ (fun H locs hP hD hS => ?_)
      refine lv_istore (lv' := [(4, .int r7), (0, .ref (ad 0)), (1, .ref (a2 0)), (2, .int x2), (3, .int x3), (5, .int x5)]) hx hb dX2_readText_37 hl (by decide) rfl (fun ls hl => ?_)
      refine lv_iload hx hb dX2_readText_39 (lv_at hl 0 rfl) ?_
      refine lv_bipush (v := 6) hx hb dX2_readText_41 (by decide) ?_
      refine lv_icmp_ne (tgt := 49) hx hb dX2_readText_43 (by decide) (fun c9 => ?_) (fun c9 => ?_)
      · have hf := it_f c9 hf
        refine lv_iinc (v := (x5 + 1)) (lv' := [(5, .int (x5 + 1)), (4, .int r7), (0, .ref (ad 0)), (1, .ref (a2 0)), (2, .int x2), (3, .int x3)]) hx hb dX2_readText_49 hl (k := 5) rfl rfl (by decide) rfl (fun ls hl => ?_)
        refine lv_goto (tgt := 16) hx hb dX2_readText_52 (by decide) ?_
        exact ih r7 (x5 + 1) n8 hf _ _ _ hP hD hS (lv_sub hl [2, 3, 4, 5, 1, 0] rfl)
      · have hf := it_t c9 hf
        exact e1 x5 n8 (Option.some.inj hf).symm _ _ _ hP hD hS (lv_sub hl [5] rfl)
set_option maxHeartbeats 4000000 in
set_option maxRecDepth 100000 in
theorem c_X2_readText {l : Launch} {D : va_G} {ad : Nat → Nat} {cy : Nat → ClassId} {a2 : Nat → Nat} {n : zS} {s : zS} {x2 : Int32} {x3 : Int32} {r0 : Int32} {n' : zS} (hf : f_X2_readText n s x2 x3 = some (r0, n')) : zMI l yX2_readText (zW yX2_readText cX2_readText 6 (some .int)) { frames := 4, cells := 0, slots := 0, locals := 91 } D cy [.ref (ad 0), .ref (a2 0), .int x2, .int x3] (wdWS ad a2 cy n s) r0 (wdWS ad a2 cy n' s) := by
  unfold f_X2_readText at hf
  refine zEI (ty := .int) (by decide) (Nat.le_of_ble_eq_true rfl) ?_
  intro p e s9 m9 below meth c A Q C0 hret ls hl hP hD
  have hl : lv_has ls 6 [(0, .ref (ad 0)), (1, .ref (a2 0)), (2, .int x2), (3, .int x3)] := hl
  have hS : va_S A s9.heap s9.heap [] := va_S.rf
  obtain ⟨hx, hb, hml, hown, hts⟩ := id C0.1
  refine lv_aload_n hx hb dX2_readText_0 rfl (lv_at hl 0 rfl) ?_
  refine lv_iconst (v := 0) hx hb dX2_readText_1 (by decide) ?_
  obtain ⟨n1, en1, hf⟩ := zq_lt_s hf
  refine pf_X2_37 (ws' := (wdWS ad a2 cy n1 s)) C0 hP hD hS 0 wdWS_0 (Nat.le_of_ble_eq_true rfl) (by rw [en1]; rfl) dX2_readText_2 (fun H locs hP hD hS => ?_)
  refine lv_aload_n hx hb dX2_readText_5 rfl (lv_at hl 0 rfl) ?_
  refine lv_iconst (v := 0) hx hb dX2_readText_6 (by decide) ?_
  obtain ⟨n2, en2, hf⟩ := zq_lt_s hf
  refine pf_X2_41 (ws' := (wdWS ad a2 cy n2 s)) C0 hP hD hS 0 wdWS_0 (Nat.le_of_ble_eq_true rfl) (by rw [en2]; rfl) dX2_readText_7 (fun H locs hP hD hS => ?_)
  refine lv_iconst (v := 0) hx hb dX2_readText_10 (by decide) ?_
  refine lv_istore (lv' := [(4, .int 0), (0, .ref (ad 0)), (1, .ref (a2 0)), (2, .int x2), (3, .int x3)]) hx hb dX2_readText_11 hl (by decide) rfl (fun ls hl => ?_)
  refine lv_iconst (v := 0) hx hb dX2_readText_13 (by decide) ?_
  refine lv_istore (lv' := [(5, .int 0), (4, .int 0), (0, .ref (ad 0)), (1, .ref (a2 0)), (2, .int x2), (3, .int x3)]) hx hb dX2_readText_14 hl (by decide) rfl (fun ls hl => ?_)
  rcases zq_s2_2_s hf with ⟨y11, n12, hL10, hf⟩ | ⟨y14, n15, hL10, hf⟩
  · refine w_X2_readText_L16 C0 (zq_el2 ?_) (zq_nr2) 100 0 0 n2 hL10 _ _ _ hP hD hS (lv_sub hl [2, 3, 4, 5, 1, 0] rfl)
    intro H locs ls hP hD hS hl
    refine lv_iload hx hb dX2_readText_55 (lv_at hl 1 rfl) ?_
    refine lv_iconst (v := 5) hx hb dX2_readText_57 (by decide) ?_
    refine lv_icmp_ne (tgt := 66) hx hb dX2_readText_58 (by decide) (fun c13 => ?_) (fun c13 => ?_)
    · have hf := it_f c13 hf
      refine lv_iload_n hx hb dX2_readText_66 rfl (lv_at hl 0 rfl) ?_
      obtain ⟨rfl, rfl⟩ := zq_j2 hf
      exact hret _ _ _ _ rfl dX2_readText_67 hP hD hS
    · have hf := it_t c13 hf
      refine lv_bipush (v := (-9)) hx hb dX2_readText_61 (by decide) ?_
      refine lv_goto (tgt := 67) hx hb dX2_readText_63 (by decide) ?_
      obtain ⟨rfl, rfl⟩ := zq_j2 hf
      exact hret _ _ _ _ rfl dX2_readText_67 hP hD hS
  · refine w_X2_readText_L16 C0 (zq_nl2) (zq_er2 ?_) 100 0 0 n2 hL10 _ _ _ hP hD hS (lv_sub hl [2, 3, 4, 5, 1, 0] rfl)
    intro H locs ls hP hD hS hl
    refine lv_iload hx hb dX2_readText_46 (lv_at hl 0 rfl) ?_
    obtain ⟨rfl, rfl⟩ := zq_j2 hf
    exact hret _ _ _ _ rfl dX2_readText_48 hP hD hS

def f_X2_placeAmongLiving_L16 (n : zS) (x1 : Int32) : Nat → Int32 → Int32 → Option (Int32)
  | 0, _, _ => none
  | q9 + 1, x2, x3 =>
  if x1 ≤ x3 then (
  some x2) else (
  zq_rd (n 3) 4 x3 (fun v5 =>
  if v5 = 0 then (
  f_X2_placeAmongLiving_L16 n x1 q9 (x2 + 1) (x3 + 1)) else (
  f_X2_placeAmongLiving_L16 n x1 q9 (x2 + 0) (x3 + 1))))
def f_X2_placeAmongLiving (n : zS) (x1 : Int32) : Option (Int32) :=
  zq_rd (n 3) 4 x1 (fun v1 =>
  if v1 = 0 then (
  zq_b1 (f_X2_placeAmongLiving_L16 n x1 100 0 0) (fun y9 =>
  some y9)) else (
  some (-9)))
set_option maxHeartbeats 4000000 in
set_option maxRecDepth 100000 in
theorem w_X2_placeAmongLiving_L16 {l : Launch} {p : Program} {e : Env} {s9 : State} {m9 : MethodId} {ag : Array Value} {below : List Frame} {meth : Method} {c : Code} {A : Nat → Prop} {Q : State → Prop} {D : va_G} {ad : Nat → Nat} {cy : Nat → ClassId} {n : zS} {x1 : Int32} (C0 : zCx p s9 m9 ag c cX2_placeAmongLiving 4 RX2 D cy A)  {o2 : Int32} (e0 : ∀ (H : Heap) (locs : List Loc) (ls : Array Slot), va_P D vwCl (wdW ad cy n) H → va_D A (wdW ad cy n) → va_S A s9.heap H locs → lv_has ls 4 [(2, .int o2)] → W p l e { frames := 0, cells := 0, slots := 0, locals := 0 } s9 m9 ag below meth c H locs 0 0 Q (F0 m9 44 ls [])) : ∀ (q9 : Nat) (x2 : Int32) (x3 : Int32), f_X2_placeAmongLiving_L16 n x1 q9 x2 x3 = some o2 → ∀ (H : Heap) (locs : List Loc) (ls : Array Slot), va_P D vwCl (wdW ad cy n) H → va_D A (wdW ad cy n) → va_S A s9.heap H locs → lv_has ls 4 [(0, .ref (ad 0)), (1, .int x1), (2, .int x2), (3, .int x3)] → W p l e { frames := 0, cells := 0, slots := 0, locals := 0 } s9 m9 ag below meth c H locs 0 0 Q (F0 m9 16 ls []) := by
  obtain ⟨hx, hb, hml, hown, hts⟩ := id C0.1
  intro q9
  induction q9 with
  | zero =>
    intro x2 x3 hf
    rw [f_X2_placeAmongLiving_L16] at hf
    cases hf
  | succ q9 ih =>
    intro x2 x3 hf H locs ls hP hD hS hl
    rw [f_X2_placeAmongLiving_L16] at hf
    refine lv_iload_n hx hb dX2_placeAmongLiving_16 rfl (lv_at hl 3 rfl) ?_
    refine lv_iload_n hx hb dX2_placeAmongLiving_17 rfl (lv_at hl 1 rfl) ?_
    refine lv_icmp_ge (tgt := 44) hx hb dX2_placeAmongLiving_18 (by decide) (fun c4 => ?_) (fun c4 => ?_)
    · have hf := it_t c4 hf
      obtain rfl := Option.some.inj hf
      exact e0 _ _ _ hP hD hS (lv_sub hl [2] rfl)
    · have hf := it_f c4 hf
      refine lv_iload_n hx hb dX2_placeAmongLiving_21 rfl (lv_at hl 2 rfl) ?_
      refine lv_aload_n hx hb dX2_placeAmongLiving_22 rfl (lv_at hl 0 rfl) ?_
      refine gf_X2_21 C0 hP 0 wdW_0 rfl dX2_placeAmongLiving_23 ?_
      refine lv_iload_n hx hb dX2_placeAmongLiving_26 rfl (lv_at hl 3 rfl) ?_
      obtain ⟨v5, ev5, h6, hf⟩ := zq_rd_s hf
      refine zza C0 hP 4 wdW_4 ev5 h6 dX2_placeAmongLiving_27 ?_
      refine lv_if_eq (tgt := 35) hx hb dX2_placeAmongLiving_28 (by decide) (fun c7 => ?_) (fun c7 => ?_)
      · have hf := it_t c7 hf
        refine lv_iconst (v := 1) hx hb dX2_placeAmongLiving_35 (by decide) ?_
        refine lv_iadd hx hb dX2_placeAmongLiving_36 ?_
        refine lv_istore_n (lv' := [(2, .int (x2 + 1)), (0, .ref (ad 0)), (1, .int x1), (3, .int x3)]) hx hb dX2_placeAmongLiving_37 rfl hl (by decide) rfl (fun ls hl => ?_)
        refine lv_iinc (v := (x3 + 1)) (lv' := [(3, .int (x3 + 1)), (2, .int (x2 + 1)), (0, .ref (ad 0)), (1, .int x1)]) hx hb dX2_placeAmongLiving_38 hl (k := 3) rfl rfl (by decide) rfl (fun ls hl => ?_)
        refine lv_goto (tgt := 16) hx hb dX2_placeAmongLiving_41 (by decide) ?_
        exact ih (x2 + 1) (x3 + 1) hf _ _ _ hP hD hS (lv_sub hl [2, 3, 1, 0] rfl)
      · have hf := it_f c7 hf
        refine lv_iconst (v := 0) hx hb dX2_placeAmongLiving_31 (by decide) ?_
        refine lv_goto (tgt := 36) hx hb dX2_placeAmongLiving_32 (by decide) ?_
        refine lv_iadd hx hb dX2_placeAmongLiving_36 ?_
        refine lv_istore_n (lv' := [(2, .int (x2 + 0)), (0, .ref (ad 0)), (1, .int x1), (3, .int x3)]) hx hb dX2_placeAmongLiving_37 rfl hl (by decide) rfl (fun ls hl => ?_)
        refine lv_iinc (v := (x3 + 1)) (lv' := [(3, .int (x3 + 1)), (2, .int (x2 + 0)), (0, .ref (ad 0)), (1, .int x1)]) hx hb dX2_placeAmongLiving_38 hl (k := 3) rfl rfl (by decide) rfl (fun ls hl => ?_)
        refine lv_goto (tgt := 16) hx hb dX2_placeAmongLiving_41 (by decide) ?_
        exact ih (x2 + 0) (x3 + 1) hf _ _ _ hP hD hS (lv_sub hl [2, 3, 1, 0] rfl)
set_option maxHeartbeats 4000000 in
set_option maxRecDepth 100000 in
theorem c_X2_placeAmongLiving {l : Launch} {D : va_G} {ad : Nat → Nat} {cy : Nat → ClassId} {n : zS} {x1 : Int32} {r0 : Int32} (hf : f_X2_placeAmongLiving n x1 = some r0) : zMI l yX2_placeAmongLiving (zW yX2_placeAmongLiving cX2_placeAmongLiving 4 (some .int)) { frames := 0, cells := 0, slots := 0, locals := 0 } D cy [.ref (ad 0), .int x1] (wdW ad cy n) r0 (wdW ad cy n) := by
  unfold f_X2_placeAmongLiving at hf
  refine zEI (ty := .int) (by decide) (Nat.le_of_ble_eq_true rfl) ?_
  intro p e s9 m9 below meth c A Q C0 hret ls hl hP hD
  have hl : lv_has ls 4 [(0, .ref (ad 0)), (1, .int x1)] := hl
  have hS : va_S A s9.heap s9.heap [] := va_S.rf
  obtain ⟨hx, hb, hml, hown, hts⟩ := id C0.1
  refine lv_aload_n hx hb dX2_placeAmongLiving_0 rfl (lv_at hl 0 rfl) ?_
  refine gf_X2_21 C0 hP 0 wdW_0 rfl dX2_placeAmongLiving_1 ?_
  refine lv_iload_n hx hb dX2_placeAmongLiving_4 rfl (lv_at hl 1 rfl) ?_
  obtain ⟨v1, ev1, h2, hf⟩ := zq_rd_s hf
  refine zza C0 hP 4 wdW_4 ev1 h2 dX2_placeAmongLiving_5 ?_
  refine lv_if_eq (tgt := 12) hx hb dX2_placeAmongLiving_6 (by decide) (fun c3 => ?_) (fun c3 => ?_)
  · have hf := it_t c3 hf
    refine lv_iconst (v := 0) hx hb dX2_placeAmongLiving_12 (by decide) ?_
    refine lv_istore_n (lv' := [(2, .int 0), (0, .ref (ad 0)), (1, .int x1)]) hx hb dX2_placeAmongLiving_13 rfl hl (by decide) rfl (fun ls hl => ?_)
    refine lv_iconst (v := 0) hx hb dX2_placeAmongLiving_14 (by decide) ?_
    refine lv_istore_n (lv' := [(3, .int 0), (2, .int 0), (0, .ref (ad 0)), (1, .int x1)]) hx hb dX2_placeAmongLiving_15 rfl hl (by decide) rfl (fun ls hl => ?_)
    obtain ⟨y9, hL8, hf⟩ := zq_b1_s hf
    refine w_X2_placeAmongLiving_L16 C0 (fun H locs ls hP hD hS hl => ?_) 100 0 0 hL8 _ _ _ hP hD hS (lv_sub hl [2, 3, 1, 0] rfl)
    refine lv_iload_n hx hb dX2_placeAmongLiving_44 rfl (lv_at hl 0 rfl) ?_
    obtain rfl := Option.some.inj hf
    exact hret _ _ _ _ rfl dX2_placeAmongLiving_45 hP hD hS
  · have hf := it_f c3 hf
    refine lv_bipush (v := (-9)) hx hb dX2_placeAmongLiving_9 (by decide) ?_
    obtain rfl := Option.some.inj hf
    exact hret _ _ _ _ rfl dX2_placeAmongLiving_11 hP hD hS

def f_X2_deadModules_L4 (n : zS) : Nat → Int32 → Int32 → Option (Int32)
  | 0, _, _ => none
  | q9 + 1, x1, x2 =>
  if (n 8 0) ≤ x2 then (
  some x1) else (
  zq_rd (n 3) 4 x2 (fun v2 =>
  if v2 = 0 then (
  f_X2_deadModules_L4 n q9 (x1 + 0) (x2 + 1)) else (
  f_X2_deadModules_L4 n q9 (x1 + 1) (x2 + 1))))
def f_X2_deadModules (n : zS)  : Option (Int32) :=
  zq_b1 (f_X2_deadModules_L4 n 100 0 0) (fun y6 =>
  some y6)
set_option maxHeartbeats 4000000 in
set_option maxRecDepth 100000 in
theorem w_X2_deadModules_L4 {l : Launch} {p : Program} {e : Env} {s9 : State} {m9 : MethodId} {ag : Array Value} {below : List Frame} {meth : Method} {c : Code} {A : Nat → Prop} {Q : State → Prop} {D : va_G} {ad : Nat → Nat} {cy : Nat → ClassId} {n : zS} (C0 : zCx p s9 m9 ag c cX2_deadModules 3 RX2 D cy A)  {o1 : Int32} (e0 : ∀ (H : Heap) (locs : List Loc) (ls : Array Slot), va_P D vwCl (wdW ad cy n) H → va_D A (wdW ad cy n) → va_S A s9.heap H locs → lv_has ls 3 [(1, .int o1)] → W p l e { frames := 0, cells := 0, slots := 0, locals := 0 } s9 m9 ag below meth c H locs 0 0 Q (F0 m9 35 ls [])) : ∀ (q9 : Nat) (x1 : Int32) (x2 : Int32), f_X2_deadModules_L4 n q9 x1 x2 = some o1 → ∀ (H : Heap) (locs : List Loc) (ls : Array Slot), va_P D vwCl (wdW ad cy n) H → va_D A (wdW ad cy n) → va_S A s9.heap H locs → lv_has ls 3 [(0, .ref (ad 0)), (1, .int x1), (2, .int x2)] → W p l e { frames := 0, cells := 0, slots := 0, locals := 0 } s9 m9 ag below meth c H locs 0 0 Q (F0 m9 4 ls []) := by
  obtain ⟨hx, hb, hml, hown, hts⟩ := id C0.1
  intro q9
  induction q9 with
  | zero =>
    intro x1 x2 hf
    rw [f_X2_deadModules_L4] at hf
    cases hf
  | succ q9 ih =>
    intro x1 x2 hf H locs ls hP hD hS hl
    rw [f_X2_deadModules_L4] at hf
    refine lv_iload_n hx hb dX2_deadModules_4 rfl (lv_at hl 2 rfl) ?_
    refine lv_aload_n hx hb dX2_deadModules_5 rfl (lv_at hl 0 rfl) ?_
    refine gf_X2_37 C0 hP 0 wdW_0 rfl dX2_deadModules_6 ?_
    refine lv_icmp_ge (tgt := 35) hx hb dX2_deadModules_9 (by decide) (fun c1 => ?_) (fun c1 => ?_)
    · have hf := it_t c1 hf
      obtain rfl := Option.some.inj hf
      exact e0 _ _ _ hP hD hS (lv_sub hl [1] rfl)
    · have hf := it_f c1 hf
      refine lv_iload_n hx hb dX2_deadModules_12 rfl (lv_at hl 1 rfl) ?_
      refine lv_aload_n hx hb dX2_deadModules_13 rfl (lv_at hl 0 rfl) ?_
      refine gf_X2_21 C0 hP 0 wdW_0 rfl dX2_deadModules_14 ?_
      refine lv_iload_n hx hb dX2_deadModules_17 rfl (lv_at hl 2 rfl) ?_
      obtain ⟨v2, ev2, h3, hf⟩ := zq_rd_s hf
      refine zza C0 hP 4 wdW_4 ev2 h3 dX2_deadModules_18 ?_
      refine lv_if_eq (tgt := 26) hx hb dX2_deadModules_19 (by decide) (fun c4 => ?_) (fun c4 => ?_)
      · have hf := it_t c4 hf
        refine lv_iconst (v := 0) hx hb dX2_deadModules_26 (by decide) ?_
        refine lv_iadd hx hb dX2_deadModules_27 ?_
        refine lv_istore_n (lv' := [(1, .int (x1 + 0)), (0, .ref (ad 0)), (2, .int x2)]) hx hb dX2_deadModules_28 rfl hl (by decide) rfl (fun ls hl => ?_)
        refine lv_iinc (v := (x2 + 1)) (lv' := [(2, .int (x2 + 1)), (1, .int (x1 + 0)), (0, .ref (ad 0))]) hx hb dX2_deadModules_29 hl (k := 2) rfl rfl (by decide) rfl (fun ls hl => ?_)
        refine lv_goto (tgt := 4) hx hb dX2_deadModules_32 (by decide) ?_
        exact ih (x1 + 0) (x2 + 1) hf _ _ _ hP hD hS (lv_sub hl [2, 1, 0] rfl)
      · have hf := it_f c4 hf
        refine lv_iconst (v := 1) hx hb dX2_deadModules_22 (by decide) ?_
        refine lv_goto (tgt := 27) hx hb dX2_deadModules_23 (by decide) ?_
        refine lv_iadd hx hb dX2_deadModules_27 ?_
        refine lv_istore_n (lv' := [(1, .int (x1 + 1)), (0, .ref (ad 0)), (2, .int x2)]) hx hb dX2_deadModules_28 rfl hl (by decide) rfl (fun ls hl => ?_)
        refine lv_iinc (v := (x2 + 1)) (lv' := [(2, .int (x2 + 1)), (1, .int (x1 + 1)), (0, .ref (ad 0))]) hx hb dX2_deadModules_29 hl (k := 2) rfl rfl (by decide) rfl (fun ls hl => ?_)
        refine lv_goto (tgt := 4) hx hb dX2_deadModules_32 (by decide) ?_
        exact ih (x1 + 1) (x2 + 1) hf _ _ _ hP hD hS (lv_sub hl [2, 1, 0] rfl)
set_option maxHeartbeats 4000000 in
set_option maxRecDepth 100000 in
theorem c_X2_deadModules {l : Launch} {D : va_G} {ad : Nat → Nat} {cy : Nat → ClassId} {n : zS}  {r0 : Int32} (hf : f_X2_deadModules n = some r0) : zMI l yX2_deadModules (zW yX2_deadModules cX2_deadModules 3 (some .int)) { frames := 0, cells := 0, slots := 0, locals := 0 } D cy [.ref (ad 0)] (wdW ad cy n) r0 (wdW ad cy n) := by
  unfold f_X2_deadModules at hf
  refine zEI (ty := .int) (by decide) (Nat.le_of_ble_eq_true rfl) ?_
  intro p e s9 m9 below meth c A Q C0 hret ls hl hP hD
  have hl : lv_has ls 3 [(0, .ref (ad 0))] := hl
  have hS : va_S A s9.heap s9.heap [] := va_S.rf
  obtain ⟨hx, hb, hml, hown, hts⟩ := id C0.1
  refine lv_iconst (v := 0) hx hb dX2_deadModules_0 (by decide) ?_
  refine lv_istore_n (lv' := [(1, .int 0), (0, .ref (ad 0))]) hx hb dX2_deadModules_1 rfl hl (by decide) rfl (fun ls hl => ?_)
  refine lv_iconst (v := 0) hx hb dX2_deadModules_2 (by decide) ?_
  refine lv_istore_n (lv' := [(2, .int 0), (1, .int 0), (0, .ref (ad 0))]) hx hb dX2_deadModules_3 rfl hl (by decide) rfl (fun ls hl => ?_)
  obtain ⟨y6, hL5, hf⟩ := zq_b1_s hf
  refine w_X2_deadModules_L4 C0 (fun H locs ls hP hD hS hl => ?_) 100 0 0 hL5 _ _ _ hP hD hS (lv_sub hl [2, 1, 0] rfl)
  refine lv_iload_n hx hb dX2_deadModules_35 rfl (lv_at hl 0 rfl) ?_
  obtain rfl := Option.some.inj hf
  exact hret _ _ _ _ rfl dX2_deadModules_36 hP hD hS

def f_X2_levelsTogether_L9 (n : zS) (x1 : Int32) : Nat → Int32 → Int32 → Option (Int32)
  | 0, _, _ => none
  | q9 + 1, x2, x3 =>
  zq_rd (n 1) 4 x1 (fun v3 =>
  zq_rd (n 2) 4 x1 (fun v5 =>
  if (v3 + v5) ≤ x3 then (
  some x2) else (
  zq_rd (n 4) 16 x3 (fun v8 =>
  f_X2_levelsTogether_L9 n x1 q9 (x2 + v8) (x3 + 1)))))
def f_X2_levelsTogether (n : zS) (x1 : Int32) : Option (Int32) :=
  zq_rd (n 1) 4 x1 (fun v1 =>
  zq_b1 (f_X2_levelsTogether_L9 n x1 100 0 v1) (fun y11 =>
  some y11))
set_option maxHeartbeats 4000000 in
set_option maxRecDepth 100000 in
theorem w_X2_levelsTogether_L9 {l : Launch} {p : Program} {e : Env} {s9 : State} {m9 : MethodId} {ag : Array Value} {below : List Frame} {meth : Method} {c : Code} {A : Nat → Prop} {Q : State → Prop} {D : va_G} {ad : Nat → Nat} {cy : Nat → ClassId} {n : zS} {x1 : Int32} (C0 : zCx p s9 m9 ag c cX2_levelsTogether 4 RX2 D cy A)  {o2 : Int32} (e0 : ∀ (H : Heap) (locs : List Loc) (ls : Array Slot), va_P D vwCl (wdW ad cy n) H → va_D A (wdW ad cy n) → va_S A s9.heap H locs → lv_has ls 4 [(2, .int o2)] → W p l e { frames := 0, cells := 0, slots := 0, locals := 0 } s9 m9 ag below meth c H locs 0 0 Q (F0 m9 41 ls [])) : ∀ (q9 : Nat) (x2 : Int32) (x3 : Int32), f_X2_levelsTogether_L9 n x1 q9 x2 x3 = some o2 → ∀ (H : Heap) (locs : List Loc) (ls : Array Slot), va_P D vwCl (wdW ad cy n) H → va_D A (wdW ad cy n) → va_S A s9.heap H locs → lv_has ls 4 [(0, .ref (ad 0)), (1, .int x1), (2, .int x2), (3, .int x3)] → W p l e { frames := 0, cells := 0, slots := 0, locals := 0 } s9 m9 ag below meth c H locs 0 0 Q (F0 m9 9 ls []) := by
  obtain ⟨hx, hb, hml, hown, hts⟩ := id C0.1
  intro q9
  induction q9 with
  | zero =>
    intro x2 x3 hf
    rw [f_X2_levelsTogether_L9] at hf
    cases hf
  | succ q9 ih =>
    intro x2 x3 hf H locs ls hP hD hS hl
    rw [f_X2_levelsTogether_L9] at hf
    refine lv_iload_n hx hb dX2_levelsTogether_9 rfl (lv_at hl 3 rfl) ?_
    refine lv_aload_n hx hb dX2_levelsTogether_10 rfl (lv_at hl 0 rfl) ?_
    refine gf_X2_15 C0 hP 0 wdW_0 rfl dX2_levelsTogether_11 ?_
    refine lv_iload_n hx hb dX2_levelsTogether_14 rfl (lv_at hl 1 rfl) ?_
    obtain ⟨v3, ev3, h4, hf⟩ := zq_rd_s hf
    refine zia C0 hP 2 wdW_2 ev3 h4 dX2_levelsTogether_15 ?_
    refine lv_aload_n hx hb dX2_levelsTogether_16 rfl (lv_at hl 0 rfl) ?_
    refine gf_X2_18 C0 hP 0 wdW_0 rfl dX2_levelsTogether_17 ?_
    refine lv_iload_n hx hb dX2_levelsTogether_20 rfl (lv_at hl 1 rfl) ?_
    obtain ⟨v5, ev5, h6, hf⟩ := zq_rd_s hf
    refine zia C0 hP 3 wdW_3 ev5 h6 dX2_levelsTogether_21 ?_
    refine lv_iadd hx hb dX2_levelsTogether_22 ?_
    refine lv_icmp_ge (tgt := 41) hx hb dX2_levelsTogether_23 (by decide) (fun c7 => ?_) (fun c7 => ?_)
    · have hf := it_t c7 hf
      obtain rfl := Option.some.inj hf
      exact e0 _ _ _ hP hD hS (lv_sub hl [2] rfl)
    · have hf := it_f c7 hf
      refine lv_iload_n hx hb dX2_levelsTogether_26 rfl (lv_at hl 2 rfl) ?_
      refine lv_aload_n hx hb dX2_levelsTogether_27 rfl (lv_at hl 0 rfl) ?_
      refine gf_X2_25 C0 hP 0 wdW_0 rfl dX2_levelsTogether_28 ?_
      refine lv_iload_n hx hb dX2_levelsTogether_31 rfl (lv_at hl 3 rfl) ?_
      obtain ⟨v8, ev8, h9, hf⟩ := zq_rd_s hf
      refine zia C0 hP 5 wdW_5 ev8 h9 dX2_levelsTogether_32 ?_
      refine lv_iadd hx hb dX2_levelsTogether_33 ?_
      refine lv_istore_n (lv' := [(2, .int (x2 + v8)), (0, .ref (ad 0)), (1, .int x1), (3, .int x3)]) hx hb dX2_levelsTogether_34 rfl hl (by decide) rfl (fun ls hl => ?_)
      refine lv_iinc (v := (x3 + 1)) (lv' := [(3, .int (x3 + 1)), (2, .int (x2 + v8)), (0, .ref (ad 0)), (1, .int x1)]) hx hb dX2_levelsTogether_35 hl (k := 3) rfl rfl (by decide) rfl (fun ls hl => ?_)
      refine lv_goto (tgt := 9) hx hb dX2_levelsTogether_38 (by decide) ?_
      exact ih (x2 + v8) (x3 + 1) hf _ _ _ hP hD hS (lv_sub hl [2, 3, 1, 0] rfl)
set_option maxHeartbeats 4000000 in
set_option maxRecDepth 100000 in
theorem c_X2_levelsTogether {l : Launch} {D : va_G} {ad : Nat → Nat} {cy : Nat → ClassId} {n : zS} {x1 : Int32} {r0 : Int32} (hf : f_X2_levelsTogether n x1 = some r0) : zMI l yX2_levelsTogether (zW yX2_levelsTogether cX2_levelsTogether 4 (some .int)) { frames := 0, cells := 0, slots := 0, locals := 0 } D cy [.ref (ad 0), .int x1] (wdW ad cy n) r0 (wdW ad cy n) := by
  unfold f_X2_levelsTogether at hf
  refine zEI (ty := .int) (by decide) (Nat.le_of_ble_eq_true rfl) ?_
  intro p e s9 m9 below meth c A Q C0 hret ls hl hP hD
  have hl : lv_has ls 4 [(0, .ref (ad 0)), (1, .int x1)] := hl
  have hS : va_S A s9.heap s9.heap [] := va_S.rf
  obtain ⟨hx, hb, hml, hown, hts⟩ := id C0.1
  refine lv_iconst (v := 0) hx hb dX2_levelsTogether_0 (by decide) ?_
  refine lv_istore_n (lv' := [(2, .int 0), (0, .ref (ad 0)), (1, .int x1)]) hx hb dX2_levelsTogether_1 rfl hl (by decide) rfl (fun ls hl => ?_)
  refine lv_aload_n hx hb dX2_levelsTogether_2 rfl (lv_at hl 1 rfl) ?_
  refine gf_X2_15 C0 hP 0 wdW_0 rfl dX2_levelsTogether_3 ?_
  refine lv_iload_n hx hb dX2_levelsTogether_6 rfl (lv_at hl 2 rfl) ?_
  obtain ⟨v1, ev1, h2, hf⟩ := zq_rd_s hf
  refine zia C0 hP 2 wdW_2 ev1 h2 dX2_levelsTogether_7 ?_
  refine lv_istore_n (lv' := [(3, .int v1), (2, .int 0), (0, .ref (ad 0)), (1, .int x1)]) hx hb dX2_levelsTogether_8 rfl hl (by decide) rfl (fun ls hl => ?_)
  obtain ⟨y11, hL10, hf⟩ := zq_b1_s hf
  refine w_X2_levelsTogether_L9 C0 (fun H locs ls hP hD hS hl => ?_) 100 0 v1 hL10 _ _ _ hP hD hS (lv_sub hl [2, 3, 1, 0] rfl)
  refine lv_iload_n hx hb dX2_levelsTogether_41 rfl (lv_at hl 0 rfl) ?_
  obtain rfl := Option.some.inj hf
  exact hret _ _ _ _ rfl dX2_levelsTogether_42 hP hD hS

def f_X2_takeLevels_L6 (s : zS) (x2 : Int32) (x3 : Int32) : Nat → Int32 → Int32 → zS → Option ((Int32 × zS) ⊕ (Int32 × zS))
  | 0, _, _, _ => none
  | q9 + 1, x4, x5, n =>
  if (n 8 0) ≤ x5 then (
  some (Sum.inl (x4, n))) else (
  zq_rd (n 3) 4 x5 (fun v2 =>
  if v2 = 0 then (
  zq_rd (n 2) 4 x5 (fun v5 =>
  if v5 ≤ (x3 - x4) then (
  zq_rd (n 1) 4 x5 (fun v8 =>
  zq_rd (n 2) 4 x5 (fun v10 =>
  zq_cp .int (s 0) 60 16 (x2 + x4) v8 v10 (zq_lt (va_up n 4 (va_cpy (s 0) (n 4) (Int32.toNatClampNeg (x2 + x4)) (Int32.toNatClampNeg v8) (Int32.toNatClampNeg v10))) (fun n13 =>
  zq_rd (n13 2) 4 x5 (fun v14 =>
  f_X2_takeLevels_L6 s x2 x3 q9 (x4 + v14) (x5 + 1) n13)))))) else (
  some (Sum.inr (x4, n))))) else (
  f_X2_takeLevels_L6 s x2 x3 q9 x4 (x5 + 1) n)))
def f_X2_takeLevels (n : zS) (s : zS) (x2 : Int32) (x3 : Int32) : Option (Int32 × zS) :=
  zq_s2_2 (f_X2_takeLevels_L6 s x2 x3 100 0 0 n) (fun y17 n18 =>
  some (y17, n18)) (fun y19 n20 =>
  some (y19, n20))
set_option maxHeartbeats 4000000 in
set_option maxRecDepth 100000 in
theorem w_X2_takeLevels_L6 {l : Launch} {p : Program} {e : Env} {s9 : State} {m9 : MethodId} {ag : Array Value} {below : List Frame} {meth : Method} {c : Code} {A : Nat → Prop} {Q : State → Prop} {D : va_G} {ad : Nat → Nat} {cy : Nat → ClassId} {a2 : Nat → Nat} {s : zS} {x2 : Int32} {x3 : Int32} (C0 : zCx p s9 m9 ag c cX2_takeLevels 6 RX2 D cy A)  {out : (Int32 × zS) ⊕ (Int32 × zS)} (e0 : ∀ (o4 : Int32) (no : zS), out = Sum.inl (o4, no) → ∀ (H : Heap) (locs : List Loc) (ls : Array Slot), va_P D vwCl (wdWS ad a2 cy no s) H → va_D A (wdWS ad a2 cy no s) → va_S A s9.heap H locs → lv_has ls 6 [(4, .int o4)] → W p l e { frames := 1, cells := 0, slots := 0, locals := 48 } s9 m9 ag below meth c H locs 0 0 Q (F0 m9 92 ls [])) (e1 : ∀ (o4 : Int32) (no : zS), out = Sum.inr (o4, no) → ∀ (H : Heap) (locs : List Loc) (ls : Array Slot), va_P D vwCl (wdWS ad a2 cy no s) H → va_D A (wdWS ad a2 cy no s) → va_S A s9.heap H locs → lv_has ls 6 [(4, .int o4)] → W p l e { frames := 1, cells := 0, slots := 0, locals := 48 } s9 m9 ag below meth c H locs 0 0 Q (F0 m9 42 ls [])) : ∀ (q9 : Nat) (x4 : Int32) (x5 : Int32) (n : zS), f_X2_takeLevels_L6 s x2 x3 q9 x4 x5 n = some out → ∀ (H : Heap) (locs : List Loc) (ls : Array Slot), va_P D vwCl (wdWS ad a2 cy n s) H → va_D A (wdWS ad a2 cy n s) → va_S A s9.heap H locs → lv_has ls 6 [(0, .ref (ad 0)), (1, .ref (a2 0)), (2, .int x2), (3, .int x3), (4, .int x4), (5, .int x5)] → W p l e { frames := 1, cells := 0, slots := 0, locals := 48 } s9 m9 ag below meth c H locs 0 0 Q (F0 m9 6 ls []) := by
  obtain ⟨hx, hb, hml, hown, hts⟩ := id C0.1
  intro q9
  induction q9 with
  | zero =>
    intro x4 x5 n hf
    rw [f_X2_takeLevels_L6] at hf
    cases hf
  | succ q9 ih =>
    intro x4 x5 n hf H locs ls hP hD hS hl
    rw [f_X2_takeLevels_L6] at hf
    refine lv_iload hx hb dX2_takeLevels_6 (lv_at hl 5 rfl) ?_
    refine lv_aload_n hx hb dX2_takeLevels_8 rfl (lv_at hl 0 rfl) ?_
    refine gf_X2_37 C0 hP 0 wdWS_0 rfl dX2_takeLevels_9 ?_
    refine lv_icmp_ge (tgt := 92) hx hb dX2_takeLevels_12 (by decide) (fun c1 => ?_) (fun c1 => ?_)
    · have hf := it_t c1 hf
      exact e0 x4 n (Option.some.inj hf).symm _ _ _ hP hD hS (lv_sub hl [4] rfl)
    · have hf := it_f c1 hf
      refine lv_aload_n hx hb dX2_takeLevels_15 rfl (lv_at hl 0 rfl) ?_
      refine gf_X2_21 C0 hP 0 wdWS_0 rfl dX2_takeLevels_16 ?_
      refine lv_iload hx hb dX2_takeLevels_19 (lv_at hl 5 rfl) ?_
      obtain ⟨v2, ev2, h3, hf⟩ := zq_rd_s hf
      refine zza C0 hP 4 wdWS_4 ev2 h3 dX2_takeLevels_21 ?_
      refine lv_if_eq (tgt := 28) hx hb dX2_takeLevels_22 (by decide) (fun c4 => ?_) (fun c4 => ?_)
      · have hf := it_t c4 hf
        refine lv_aload_n hx hb dX2_takeLevels_28 rfl (lv_at hl 0 rfl) ?_
        refine gf_X2_18 C0 hP 0 wdWS_0 rfl dX2_takeLevels_29 ?_
        refine lv_iload hx hb dX2_takeLevels_32 (lv_at hl 5 rfl) ?_
        obtain ⟨v5, ev5, h6, hf⟩ := zq_rd_s hf
        refine zia C0 hP 3 wdWS_3 ev5 h6 dX2_takeLevels_34 ?_
        refine lv_iload_n hx hb dX2_takeLevels_35 rfl (lv_at hl 3 rfl) ?_
        refine lv_iload hx hb dX2_takeLevels_36 (lv_at hl 4 rfl) ?_
        refine lv_isub hx hb dX2_takeLevels_38 ?_
        refine lv_icmp_le (tgt := 45) hx hb dX2_takeLevels_39 (by decide) (fun c7 => ?_) (fun c7 => ?_)
        · have hf := it_t c7 hf
          refine lv_aload_n hx hb dX2_takeLevels_45 rfl (lv_at hl 1 rfl) ?_
          refine gf_X2_53 C0 hP 9 wdWS_9 rfl dX2_takeLevels_46 ?_
          refine lv_iload_n hx hb dX2_takeLevels_49 rfl (lv_at hl 2 rfl) ?_
          refine lv_iload hx hb dX2_takeLevels_50 (lv_at hl 4 rfl) ?_
          refine lv_iadd hx hb dX2_takeLevels_52 ?_
          refine lv_aload_n hx hb dX2_takeLevels_53 rfl (lv_at hl 0 rfl) ?_
          refine gf_X2_25 C0 hP 0 wdWS_0 rfl dX2_takeLevels_54 ?_
          refine lv_aload_n hx hb dX2_takeLevels_57 rfl (lv_at hl 0 rfl) ?_
          refine gf_X2_15 C0 hP 0 wdWS_0 rfl dX2_takeLevels_58 ?_
          refine lv_iload hx hb dX2_takeLevels_61 (lv_at hl 5 rfl) ?_
          obtain ⟨v8, ev8, h9, hf⟩ := zq_rd_s hf
          refine zia C0 hP 2 wdWS_2 ev8 h9 dX2_takeLevels_63 ?_
          refine lv_aload_n hx hb dX2_takeLevels_64 rfl (lv_at hl 0 rfl) ?_
          refine gf_X2_18 C0 hP 0 wdWS_0 rfl dX2_takeLevels_65 ?_
          refine lv_iload hx hb dX2_takeLevels_68 (lv_at hl 5 rfl) ?_
          obtain ⟨v10, ev10, h11, hf⟩ := zq_rd_s hf
          refine zia C0 hP 3 wdWS_3 ev10 h11 dX2_takeLevels_70 ?_
          obtain ⟨h12, hf⟩ := zq_cp_s hf
          obtain ⟨n13, en13, hf⟩ := zq_lt_s hf
          refine zcpy (ws' := (wdWS ad a2 cy n13 s)) C0 hl.1 0 rfl rfl kl_X2_47 kn_ac ks_ac ki_J10 hP hD hS 10 5 wdWS_10 wdWS_5 h12 (Nat.le_of_ble_eq_true rfl) (Nat.le_of_ble_eq_true rfl) (by rw [en13]; rfl) dX2_takeLevels_71 (fun H locs hP hD hS => ?_)
          refine lv_iload hx hb dX2_takeLevels_74 (lv_at hl 4 rfl) ?_
          refine lv_aload_n hx hb dX2_takeLevels_76 rfl (lv_at hl 0 rfl) ?_
          refine gf_X2_18 C0 hP 0 wdWS_0 rfl dX2_takeLevels_77 ?_
          refine lv_iload hx hb dX2_takeLevels_80 (lv_at hl 5 rfl) ?_
          obtain ⟨v14, ev14, h15, hf⟩ := zq_rd_s hf
          refine zia C0 hP 3 wdWS_3 ev14 h15 dX2_takeLevels_82 ?_
          refine lv_iadd hx hb dX2_takeLevels_83 ?_
          refine lv_istore (lv' := [(4, .int (x4 + v14)), (0, .ref (ad 0)), (1, .ref (a2 0)), (2, .int x2), (3, .int x3), (5, .int x5)]) hx hb dX2_takeLevels_84 hl (by decide) rfl (fun ls hl => ?_)
          refine lv_iinc (v := (x5 + 1)) (lv' := [(5, .int (x5 + 1)), (4, .int (x4 + v14)), (0, .ref (ad 0)), (1, .ref (a2 0)), (2, .int x2), (3, .int x3)]) hx hb dX2_takeLevels_86 hl (k := 5) rfl rfl (by decide) rfl (fun ls hl => ?_)
          refine lv_goto (tgt := 6) hx hb dX2_takeLevels_89 (by decide) ?_
          exact ih (x4 + v14) (x5 + 1) n13 hf _ _ _ hP hD hS (lv_sub hl [2, 3, 4, 5, 1, 0] rfl)
        · have hf := it_f c7 hf
          exact e1 x4 n (Option.some.inj hf).symm _ _ _ hP hD hS (lv_sub hl [4] rfl)
      · have hf := it_f c4 hf
        refine lv_goto (tgt := 86) hx hb dX2_takeLevels_25 (by decide) ?_
        refine lv_iinc (v := (x5 + 1)) (lv' := [(5, .int (x5 + 1)), (0, .ref (ad 0)), (1, .ref (a2 0)), (2, .int x2), (3, .int x3), (4, .int x4)]) hx hb dX2_takeLevels_86 hl (k := 5) rfl rfl (by decide) rfl (fun ls hl => ?_)
        refine lv_goto (tgt := 6) hx hb dX2_takeLevels_89 (by decide) ?_
        exact ih x4 (x5 + 1) n hf _ _ _ hP hD hS (lv_sub hl [1, 2, 3, 4, 5, 0] rfl)
set_option maxHeartbeats 4000000 in
set_option maxRecDepth 100000 in
theorem c_X2_takeLevels {l : Launch} {D : va_G} {ad : Nat → Nat} {cy : Nat → ClassId} {a2 : Nat → Nat} {n : zS} {s : zS} {x2 : Int32} {x3 : Int32} {r0 : Int32} {n' : zS} (hf : f_X2_takeLevels n s x2 x3 = some (r0, n')) : zMI l yX2_takeLevels (zW yX2_takeLevels cX2_takeLevels 6 (some .int)) { frames := 1, cells := 0, slots := 0, locals := 48 } D cy [.ref (ad 0), .ref (a2 0), .int x2, .int x3] (wdWS ad a2 cy n s) r0 (wdWS ad a2 cy n' s) := by
  unfold f_X2_takeLevels at hf
  refine zEI (ty := .int) (by decide) (Nat.le_of_ble_eq_true rfl) ?_
  intro p e s9 m9 below meth c A Q C0 hret ls hl hP hD
  have hl : lv_has ls 6 [(0, .ref (ad 0)), (1, .ref (a2 0)), (2, .int x2), (3, .int x3)] := hl
  have hS : va_S A s9.heap s9.heap [] := va_S.rf
  obtain ⟨hx, hb, hml, hown, hts⟩ := id C0.1
  refine lv_iconst (v := 0) hx hb dX2_takeLevels_0 (by decide) ?_
  refine lv_istore (lv' := [(4, .int 0), (0, .ref (ad 0)), (1, .ref (a2 0)), (2, .int x2), (3, .int x3)]) hx hb dX2_takeLevels_1 hl (by decide) rfl (fun ls hl => ?_)
  refine lv_iconst (v := 0) hx hb dX2_takeLevels_3 (by decide) ?_
  refine lv_istore (lv' := [(5, .int 0), (4, .int 0), (0, .ref (ad 0)), (1, .ref (a2 0)), (2, .int x2), (3, .int x3)]) hx hb dX2_takeLevels_4 hl (by decide) rfl (fun ls hl => ?_)
  rcases zq_s2_2_s hf with ⟨y17, n18, hL16, hf⟩ | ⟨y19, n20, hL16, hf⟩
  · refine w_X2_takeLevels_L6 C0 (zq_el2 ?_) (zq_nr2) 100 0 0 n hL16 _ _ _ hP hD hS (lv_sub hl [2, 3, 4, 5, 1, 0] rfl)
    intro H locs ls hP hD hS hl
    refine lv_iload hx hb dX2_takeLevels_92 (lv_at hl 0 rfl) ?_
    obtain ⟨rfl, rfl⟩ := zq_j2 hf
    exact hret _ _ _ _ rfl dX2_takeLevels_94 hP hD hS
  · refine w_X2_takeLevels_L6 C0 (zq_nl2) (zq_er2 ?_) 100 0 0 n hL16 _ _ _ hP hD hS (lv_sub hl [2, 3, 4, 5, 1, 0] rfl)
    intro H locs ls hP hD hS hl
    refine lv_goto (tgt := 92) hx hb dX2_takeLevels_42 (by decide) ?_
    refine lv_iload hx hb dX2_takeLevels_92 (lv_at hl 0 rfl) ?_
    obtain ⟨rfl, rfl⟩ := zq_j2 hf
    exact hret _ _ _ _ rfl dX2_takeLevels_94 hP hD hS

def f_X2_canAct (n : zS) (x1 : Int32) (x2 : Int32) : Option (Int32 × zS) :=
  if x2 = 20 then (
  zq_b1 (f_X2_layFrame n x1) (fun n19 =>
  some (1, n19))) else (
  if x2 < 30 then (
  zq_b1 (f_X2_hasLamp n x2) (fun r4 =>
  if r4 = 0 then (
  some (0, n)) else (
  zq_in 16 x2 (zq_lt (va_up n 4 (upd (n 4) (Int32.toNatClampNeg x2) x1)) (fun n7 =>
  some (1, n7)))))) else (
  zq_b1 (f_X2_hasModule n (x2 - 30)) (fun r9 =>
  if r9 = 0 then (
  some (0, n)) else (
  zq_rd (n 3) 4 (x2 - 30) (fun v11 =>
  if v11 = 0 then (
  zq_in 4 (x2 - 30) (zq_lt (va_up n 3 (upd (n 3) (Int32.toNatClampNeg (x2 - 30)) (vp_nar .boolean 1))) (fun n17 =>
  some (1, n17)))) else (
  zq_in 4 (x2 - 30) (zq_lt (va_up n 3 (upd (n 3) (Int32.toNatClampNeg (x2 - 30)) (vp_nar .boolean 0))) (fun n15 =>
  some (1, n15)))))))))
set_option maxHeartbeats 4000000 in
set_option maxRecDepth 100000 in
theorem c_X2_canAct {l : Launch} {D : va_G} {ad : Nat → Nat} {cy : Nat → ClassId} {n : zS} {x1 : Int32} {x2 : Int32} {r0 : Int32} {n' : zS} (hf : f_X2_canAct n x1 x2 = some (r0, n')) : zMI l yX2_canAct (zW yX2_canAct cX2_canAct 4 (some .boolean)) { frames := 2, cells := 0, slots := 0, locals := 48 } D cy [.ref (ad 0), .int x1, .int x2] (wdW ad cy n) r0 (wdW ad cy n') := by
  unfold f_X2_canAct at hf
  refine zEI (ty := .boolean) (by decide) (Nat.le_of_ble_eq_true rfl) ?_
  intro p e s9 m9 below meth c A Q C0 hret ls hl hP hD
  have hl : lv_has ls 4 [(0, .ref (ad 0)), (1, .int x1), (2, .int x2)] := hl
  have hS : va_S A s9.heap s9.heap [] := va_S.rf
  obtain ⟨hx, hb, hml, hown, hts⟩ := id C0.1
  refine lv_iload_n hx hb dX2_canAct_0 rfl (lv_at hl 2 rfl) ?_
  refine lv_bipush (v := 20) hx hb dX2_canAct_1 (by decide) ?_
  refine lv_icmp_ne (tgt := 13) hx hb dX2_canAct_3 (by decide) (fun c1 => ?_) (fun c1 => ?_)
  · have hf := it_f c1 hf
    refine lv_iload_n hx hb dX2_canAct_13 rfl (lv_at hl 2 rfl) ?_
    refine lv_bipush (v := 30) hx hb dX2_canAct_14 (by decide) ?_
    refine lv_icmp_lt (tgt := 56) hx hb dX2_canAct_16 (by decide) (fun c2 => ?_) (fun c2 => ?_)
    · have hf := it_t c2 hf
      refine lv_aload_n hx hb dX2_canAct_56 rfl (lv_at hl 0 rfl) ?_
      refine lv_iload_n hx hb dX2_canAct_57 rfl (lv_at hl 2 rfl) ?_
      obtain ⟨r4, hc3, hf⟩ := zq_b1_s hf
      refine zVI (ws' := (wdW ad cy n)) (rest := []) C0 (fun _ h => h) zF.id (c_X2_hasLamp hc3) hP hD hS my_X2_hasLamp kl_X2_96 ⟨rfl, rfl⟩ ⟨Nat.le_of_ble_eq_true rfl, Nat.le_of_ble_eq_true rfl⟩ (q0 := 0) (ci := 2) rfl wdW_0 rfl hl.1 rfl (Nat.le_of_ble_eq_true rfl) dX2_canAct_58 ⟨Nat.zero_le _, Nat.zero_le _⟩ (fun H locs hP hD hS => ?_)
      refine lv_if_ne (tgt := 66) hx hb dX2_canAct_61 (by decide) (fun c5 => ?_) (fun c5 => ?_)
      · have hf := it_f c5 hf
        refine lv_aload_n hx hb dX2_canAct_66 rfl (lv_at hl 0 rfl) ?_
        refine gf_X2_25 C0 hP 0 wdW_0 rfl dX2_canAct_67 ?_
        refine lv_iload_n hx hb dX2_canAct_70 rfl (lv_at hl 2 rfl) ?_
        refine lv_iload_n hx hb dX2_canAct_71 rfl (lv_at hl 1 rfl) ?_
        obtain ⟨h6, hf⟩ := zq_in_s hf
        obtain ⟨n7, en7, hf⟩ := zq_lt_s hf
        refine zis (ws' := (wdW ad cy n7)) C0 hP hD hS 5 wdW_5 h6 (by rw [en7]; rfl) dX2_canAct_72 (fun H locs hP hD hS => ?_)
        refine lv_iconst (v := 1) hx hb dX2_canAct_73 (by decide) ?_
        obtain ⟨rfl, rfl⟩ := zq_j2 hf
        exact hret _ _ _ _ rfl dX2_canAct_74 hP hD hS
      · have hf := it_t c5 hf
        refine lv_iconst (v := 0) hx hb dX2_canAct_64 (by decide) ?_
        obtain ⟨rfl, rfl⟩ := zq_j2 hf
        exact hret _ _ _ _ rfl dX2_canAct_65 hP hD hS
    · have hf := it_f c2 hf
      refine lv_iload_n hx hb dX2_canAct_19 rfl (lv_at hl 2 rfl) ?_
      refine lv_bipush (v := 30) hx hb dX2_canAct_20 (by decide) ?_
      refine lv_isub hx hb dX2_canAct_22 ?_
      refine lv_istore_n (lv' := [(3, .int (x2 - 30)), (0, .ref (ad 0)), (1, .int x1), (2, .int x2)]) hx hb dX2_canAct_23 rfl hl (by decide) rfl (fun ls hl => ?_)
      refine lv_aload_n hx hb dX2_canAct_24 rfl (lv_at hl 1 rfl) ?_
      refine lv_iload_n hx hb dX2_canAct_25 rfl (lv_at hl 0 rfl) ?_
      obtain ⟨r9, hc8, hf⟩ := zq_b1_s hf
      refine zVI (ws' := (wdW ad cy n)) (rest := []) C0 (fun _ h => h) zF.id (c_X2_hasModule hc8) hP hD hS my_X2_hasModule kl_X2_93 ⟨rfl, rfl⟩ ⟨Nat.le_of_ble_eq_true rfl, Nat.le_of_ble_eq_true rfl⟩ (q0 := 0) (ci := 2) rfl wdW_0 rfl hl.1 rfl (Nat.le_of_ble_eq_true rfl) dX2_canAct_26 ⟨Nat.zero_le _, Nat.zero_le _⟩ (fun H locs hP hD hS => ?_)
      refine lv_if_ne (tgt := 34) hx hb dX2_canAct_29 (by decide) (fun c10 => ?_) (fun c10 => ?_)
      · have hf := it_f c10 hf
        refine lv_aload_n hx hb dX2_canAct_34 rfl (lv_at hl 1 rfl) ?_
        refine gf_X2_21 C0 hP 0 wdW_0 rfl dX2_canAct_35 ?_
        refine lv_iload_n hx hb dX2_canAct_38 rfl (lv_at hl 0 rfl) ?_
        refine lv_aload_n hx hb dX2_canAct_39 rfl (lv_at hl 1 rfl) ?_
        refine gf_X2_21 C0 hP 0 wdW_0 rfl dX2_canAct_40 ?_
        refine lv_iload_n hx hb dX2_canAct_43 rfl (lv_at hl 0 rfl) ?_
        obtain ⟨v11, ev11, h12, hf⟩ := zq_rd_s hf
        refine zza C0 hP 4 wdW_4 ev11 h12 dX2_canAct_44 ?_
        refine lv_if_ne (tgt := 52) hx hb dX2_canAct_45 (by decide) (fun c13 => ?_) (fun c13 => ?_)
        · have hf := it_f c13 hf
          refine lv_iconst (v := 0) hx hb dX2_canAct_52 (by decide) ?_
          obtain ⟨h14, hf⟩ := zq_in_s hf
          obtain ⟨n15, en15, hf⟩ := zq_lt_s hf
          refine zzs (ws' := (wdW ad cy n15)) C0 hP hD hS 4 wdW_4 h14 (by rw [en15]; rfl) dX2_canAct_53 (fun H locs hP hD hS => ?_)
          refine lv_iconst (v := 1) hx hb dX2_canAct_54 (by decide) ?_
          obtain ⟨rfl, rfl⟩ := zq_j2 hf
          exact hret _ _ _ _ rfl dX2_canAct_55 hP hD hS
        · have hf := it_t c13 hf
          refine lv_iconst (v := 1) hx hb dX2_canAct_48 (by decide) ?_
          refine lv_goto (tgt := 53) hx hb dX2_canAct_49 (by decide) ?_
          obtain ⟨h16, hf⟩ := zq_in_s hf
          obtain ⟨n17, en17, hf⟩ := zq_lt_s hf
          refine zzs (ws' := (wdW ad cy n17)) C0 hP hD hS 4 wdW_4 h16 (by rw [en17]; rfl) dX2_canAct_53 (fun H locs hP hD hS => ?_)
          refine lv_iconst (v := 1) hx hb dX2_canAct_54 (by decide) ?_
          obtain ⟨rfl, rfl⟩ := zq_j2 hf
          exact hret _ _ _ _ rfl dX2_canAct_55 hP hD hS
      · have hf := it_t c10 hf
        refine lv_iconst (v := 0) hx hb dX2_canAct_32 (by decide) ?_
        obtain ⟨rfl, rfl⟩ := zq_j2 hf
        exact hret _ _ _ _ rfl dX2_canAct_33 hP hD hS
  · have hf := it_t c1 hf
    refine lv_aload_n hx hb dX2_canAct_6 rfl (lv_at hl 0 rfl) ?_
    refine lv_iload_n hx hb dX2_canAct_7 rfl (lv_at hl 1 rfl) ?_
    obtain ⟨n19, hc18, hf⟩ := zq_b1_s hf
    refine zVV (ws' := (wdW ad cy n19)) (rest := []) C0 (fun _ h => h) zF.id (c_X2_layFrame hc18) hP hD hS my_X2_layFrame kl_X2_79 ⟨rfl, rfl⟩ ⟨Nat.le_of_ble_eq_true rfl, Nat.le_of_ble_eq_true rfl⟩ (q0 := 0) (ci := 2) rfl wdW_0 rfl hl.1 rfl (Nat.le_of_ble_eq_true rfl) dX2_canAct_8 ⟨Nat.zero_le _, Nat.zero_le _⟩ (fun H locs hP hD hS => ?_)
    refine lv_iconst (v := 1) hx hb dX2_canAct_11 (by decide) ?_
    obtain ⟨rfl, rfl⟩ := zq_j2 hf
    exact hret _ _ _ _ rfl dX2_canAct_12 hP hD hS

def f_X2_live_L3 (s : zS) (x2 : Int32) (x3 : Int32) : Nat → Int32 → zS → Option ((zS) ⊕ (Int32 × zS))
  | 0, _, _ => none
  | q9 + 1, x4, n =>
  if x3 ≤ x4 then (
  some (Sum.inl n)) else (
  zq_rd (s 0) 60 (x2 + (2 * x4)) (fun v2 =>
  zq_rd (s 0) 60 ((x2 + (2 * x4)) + 1) (fun v4 =>
  zq_b2 (f_X2_canAct n v2 v4) (fun r7 n8 =>
  if r7 = 0 then (
  some (Sum.inr (x4, n8))) else (
  f_X2_live_L3 s x2 x3 q9 (x4 + 1) n8)))))
def f_X2_live (n : zS) (s : zS) (x2 : Int32) (x3 : Int32) : Option (Int32 × zS) :=
  zq_s1_2 (f_X2_live_L3 s x2 x3 100 0 n) (fun n11 =>
  some ((-9), n11)) (fun y12 n13 =>
  some (y12, n13))
set_option maxHeartbeats 4000000 in
set_option maxRecDepth 100000 in
theorem w_X2_live_L3 {l : Launch} {p : Program} {e : Env} {s9 : State} {m9 : MethodId} {ag : Array Value} {below : List Frame} {meth : Method} {c : Code} {A : Nat → Prop} {Q : State → Prop} {D : va_G} {ad : Nat → Nat} {cy : Nat → ClassId} {a2 : Nat → Nat} {s : zS} {x2 : Int32} {x3 : Int32} (C0 : zCx p s9 m9 ag c cX2_live 5 RX2 D cy A)  {out : (zS) ⊕ (Int32 × zS)} (e0 : ∀ (no : zS), out = Sum.inl no → ∀ (H : Heap) (locs : List Loc) (ls : Array Slot), va_P D vwCl (wdWS ad a2 cy no s) H → va_D A (wdWS ad a2 cy no s) → va_S A s9.heap H locs → lv_has ls 5 [] → W p l e { frames := 3, cells := 0, slots := 0, locals := 71 } s9 m9 ag below meth c H locs 0 0 Q (F0 m9 49 ls [])) (e1 : ∀ (o4 : Int32) (no : zS), out = Sum.inr (o4, no) → ∀ (H : Heap) (locs : List Loc) (ls : Array Slot), va_P D vwCl (wdWS ad a2 cy no s) H → va_D A (wdWS ad a2 cy no s) → va_S A s9.heap H locs → lv_has ls 5 [(4, .int o4)] → W p l e { frames := 3, cells := 0, slots := 0, locals := 71 } s9 m9 ag below meth c H locs 0 0 Q (F0 m9 40 ls [])) : ∀ (q9 : Nat) (x4 : Int32) (n : zS), f_X2_live_L3 s x2 x3 q9 x4 n = some out → ∀ (H : Heap) (locs : List Loc) (ls : Array Slot), va_P D vwCl (wdWS ad a2 cy n s) H → va_D A (wdWS ad a2 cy n s) → va_S A s9.heap H locs → lv_has ls 5 [(0, .ref (ad 0)), (1, .ref (a2 0)), (2, .int x2), (3, .int x3), (4, .int x4)] → W p l e { frames := 3, cells := 0, slots := 0, locals := 71 } s9 m9 ag below meth c H locs 0 0 Q (F0 m9 3 ls []) := by
  obtain ⟨hx, hb, hml, hown, hts⟩ := id C0.1
  intro q9
  induction q9 with
  | zero =>
    intro x4 n hf
    rw [f_X2_live_L3] at hf
    cases hf
  | succ q9 ih =>
    intro x4 n hf H locs ls hP hD hS hl
    rw [f_X2_live_L3] at hf
    refine lv_iload hx hb dX2_live_3 (lv_at hl 4 rfl) ?_
    refine lv_iload_n hx hb dX2_live_5 rfl (lv_at hl 3 rfl) ?_
    refine lv_icmp_ge (tgt := 49) hx hb dX2_live_6 (by decide) (fun c1 => ?_) (fun c1 => ?_)
    · have hf := it_t c1 hf
      exact e0 n (Option.some.inj hf).symm _ _ _ hP hD hS (lv_sub hl [] rfl)
    · have hf := it_f c1 hf
      refine lv_aload_n hx hb dX2_live_9 rfl (lv_at hl 0 rfl) ?_
      refine lv_aload_n hx hb dX2_live_10 rfl (lv_at hl 1 rfl) ?_
      refine gf_X2_53 C0 hP 9 wdWS_9 rfl dX2_live_11 ?_
      refine lv_iload_n hx hb dX2_live_14 rfl (lv_at hl 2 rfl) ?_
      refine lv_iconst (v := 2) hx hb dX2_live_15 (by decide) ?_
      refine lv_iload hx hb dX2_live_16 (lv_at hl 4 rfl) ?_
      refine lv_imul hx hb dX2_live_18 ?_
      refine lv_iadd hx hb dX2_live_19 ?_
      obtain ⟨v2, ev2, h3, hf⟩ := zq_rd_s hf
      refine zia C0 hP 10 wdWS_10 ev2 h3 dX2_live_20 ?_
      refine lv_aload_n hx hb dX2_live_21 rfl (lv_at hl 1 rfl) ?_
      refine gf_X2_53 C0 hP 9 wdWS_9 rfl dX2_live_22 ?_
      refine lv_iload_n hx hb dX2_live_25 rfl (lv_at hl 2 rfl) ?_
      refine lv_iconst (v := 2) hx hb dX2_live_26 (by decide) ?_
      refine lv_iload hx hb dX2_live_27 (lv_at hl 4 rfl) ?_
      refine lv_imul hx hb dX2_live_29 ?_
      refine lv_iadd hx hb dX2_live_30 ?_
      refine lv_iconst (v := 1) hx hb dX2_live_31 (by decide) ?_
      refine lv_iadd hx hb dX2_live_32 ?_
      obtain ⟨v4, ev4, h5, hf⟩ := zq_rd_s hf
      refine zia C0 hP 10 wdWS_10 ev4 h5 dX2_live_33 ?_
      obtain ⟨r7, n8, hc6, hf⟩ := zq_b2_s hf
      refine zVI (ws' := (wdWS ad a2 cy n8 s)) (rest := []) C0 (fun _ h => h) fWS_n (c_X2_canAct hc6) hP hD hS my_X2_canAct kl_X2_89 ⟨rfl, rfl⟩ ⟨Nat.le_of_ble_eq_true rfl, Nat.le_of_ble_eq_true rfl⟩ (q0 := 0) (ci := 2) rfl wdWS_0 rfl hl.1 rfl (Nat.le_of_ble_eq_true rfl) dX2_live_34 ⟨Nat.zero_le _, Nat.zero_le _⟩ (fun H locs hP hD hS => ?_)
      refine lv_if_ne (tgt := 43) hx hb dX2_live_37 (by decide) (fun c9 => ?_) (fun c9 => ?_)
      · have hf := it_f c9 hf
        refine lv_iinc (v := (x4 + 1)) (lv' := [(4, .int (x4 + 1)), (0, .ref (ad 0)), (1, .ref (a2 0)), (2, .int x2), (3, .int x3)]) hx hb dX2_live_43 hl (k := 4) rfl rfl (by decide) rfl (fun ls hl => ?_)
        refine lv_goto (tgt := 3) hx hb dX2_live_46 (by decide) ?_
        exact ih (x4 + 1) n8 hf _ _ _ hP hD hS (lv_sub hl [1, 2, 3, 4, 0] rfl)
      · have hf := it_t c9 hf
        exact e1 x4 n8 (Option.some.inj hf).symm _ _ _ hP hD hS (lv_sub hl [4] rfl)
set_option maxHeartbeats 4000000 in
set_option maxRecDepth 100000 in
theorem c_X2_live {l : Launch} {D : va_G} {ad : Nat → Nat} {cy : Nat → ClassId} {a2 : Nat → Nat} {n : zS} {s : zS} {x2 : Int32} {x3 : Int32} {r0 : Int32} {n' : zS} (hf : f_X2_live n s x2 x3 = some (r0, n')) : zMI l yX2_live (zW yX2_live cX2_live 5 (some .int)) { frames := 3, cells := 0, slots := 0, locals := 71 } D cy [.ref (ad 0), .ref (a2 0), .int x2, .int x3] (wdWS ad a2 cy n s) r0 (wdWS ad a2 cy n' s) := by
  unfold f_X2_live at hf
  refine zEI (ty := .int) (by decide) (Nat.le_of_ble_eq_true rfl) ?_
  intro p e s9 m9 below meth c A Q C0 hret ls hl hP hD
  have hl : lv_has ls 5 [(0, .ref (ad 0)), (1, .ref (a2 0)), (2, .int x2), (3, .int x3)] := hl
  have hS : va_S A s9.heap s9.heap [] := va_S.rf
  obtain ⟨hx, hb, hml, hown, hts⟩ := id C0.1
  refine lv_iconst (v := 0) hx hb dX2_live_0 (by decide) ?_
  refine lv_istore (lv' := [(4, .int 0), (0, .ref (ad 0)), (1, .ref (a2 0)), (2, .int x2), (3, .int x3)]) hx hb dX2_live_1 hl (by decide) rfl (fun ls hl => ?_)
  rcases zq_s1_2_s hf with ⟨n11, hL10, hf⟩ | ⟨y12, n13, hL10, hf⟩
  · refine w_X2_live_L3 C0 (zq_el1 ?_) (zq_nr2) 100 0 n hL10 _ _ _ hP hD hS (lv_sub hl [1, 2, 3, 4, 0] rfl)
    intro H locs ls hP hD hS hl
    refine lv_bipush (v := (-9)) hx hb dX2_live_49 (by decide) ?_
    obtain ⟨rfl, rfl⟩ := zq_j2 hf
    exact hret _ _ _ _ rfl dX2_live_51 hP hD hS
  · refine w_X2_live_L3 C0 (zq_nl1) (zq_er2 ?_) 100 0 n hL10 _ _ _ hP hD hS (lv_sub hl [1, 2, 3, 4, 0] rfl)
    intro H locs ls hP hD hS hl
    refine lv_iload hx hb dX2_live_40 (lv_at hl 0 rfl) ?_
    obtain ⟨rfl, rfl⟩ := zq_j2 hf
    exact hret _ _ _ _ rfl dX2_live_42 hP hD hS

def f_X2_slicesOf_L4 (n : zS) (x1 : Int32) : Nat → Int32 → Int32 → Option (Int32)
  | 0, _, _ => none
  | q9 + 1, x2, x3 =>
  if 15 ≤ x3 then (
  some x2) else (
  zq_rd (n 6) 15 x3 (fun v2 =>
  if v2 = x1 then (
  zq_rd (n 7) 15 x3 (fun v5 =>
  f_X2_slicesOf_L4 n x1 q9 (if x2 < (v5 + 1) then (v5 + 1) else x2) (x3 + 1))) else (
  f_X2_slicesOf_L4 n x1 q9 x2 (x3 + 1))))
def f_X2_slicesOf (n : zS) (x1 : Int32) : Option (Int32) :=
  zq_b1 (f_X2_slicesOf_L4 n x1 100 0 0) (fun y8 =>
  some y8)
set_option maxHeartbeats 4000000 in
set_option maxRecDepth 100000 in
theorem w_X2_slicesOf_L4 {l : Launch} {p : Program} {e : Env} {s9 : State} {m9 : MethodId} {ag : Array Value} {below : List Frame} {meth : Method} {c : Code} {A : Nat → Prop} {Q : State → Prop} {D : va_G} {ad : Nat → Nat} {cy : Nat → ClassId} {n : zS} {x1 : Int32} (C0 : zCx p s9 m9 ag c cX2_slicesOf 4 RX2 D cy A)  {o2 : Int32} (e0 : ∀ (H : Heap) (locs : List Loc) (ls : Array Slot), va_P D vwCl (wdW ad cy n) H → va_D A (wdW ad cy n) → va_S A s9.heap H locs → lv_has ls 4 [(2, .int o2)] → W p l e { frames := 1, cells := 0, slots := 0, locals := 21 } s9 m9 ag below meth c H locs 0 0 Q (F0 m9 39 ls [])) : ∀ (q9 : Nat) (x2 : Int32) (x3 : Int32), f_X2_slicesOf_L4 n x1 q9 x2 x3 = some o2 → ∀ (H : Heap) (locs : List Loc) (ls : Array Slot), va_P D vwCl (wdW ad cy n) H → va_D A (wdW ad cy n) → va_S A s9.heap H locs → lv_has ls 4 [(0, .ref (ad 0)), (1, .int x1), (2, .int x2), (3, .int x3)] → W p l e { frames := 1, cells := 0, slots := 0, locals := 21 } s9 m9 ag below meth c H locs 0 0 Q (F0 m9 4 ls []) := by
  obtain ⟨hx, hb, hml, hown, hts⟩ := id C0.1
  intro q9
  induction q9 with
  | zero =>
    intro x2 x3 hf
    rw [f_X2_slicesOf_L4] at hf
    cases hf
  | succ q9 ih =>
    intro x2 x3 hf H locs ls hP hD hS hl
    rw [f_X2_slicesOf_L4] at hf
    refine lv_iload_n hx hb dX2_slicesOf_4 rfl (lv_at hl 3 rfl) ?_
    refine lv_bipush (v := 15) hx hb dX2_slicesOf_5 (by decide) ?_
    refine lv_icmp_ge (tgt := 39) hx hb dX2_slicesOf_7 (by decide) (fun c1 => ?_) (fun c1 => ?_)
    · have hf := it_t c1 hf
      obtain rfl := Option.some.inj hf
      exact e0 _ _ _ hP hD hS (lv_sub hl [2] rfl)
    · have hf := it_f c1 hf
      refine lv_aload_n hx hb dX2_slicesOf_10 rfl (lv_at hl 0 rfl) ?_
      refine gf_X2_31 C0 hP 0 wdW_0 rfl dX2_slicesOf_11 ?_
      refine lv_iload_n hx hb dX2_slicesOf_14 rfl (lv_at hl 3 rfl) ?_
      obtain ⟨v2, ev2, h3, hf⟩ := zq_rd_s hf
      refine zia C0 hP 7 wdW_7 ev2 h3 dX2_slicesOf_15 ?_
      refine lv_iload_n hx hb dX2_slicesOf_16 rfl (lv_at hl 1 rfl) ?_
      refine lv_icmp_ne (tgt := 33) hx hb dX2_slicesOf_17 (by decide) (fun c4 => ?_) (fun c4 => ?_)
      · have hf := it_f c4 hf
        refine lv_iinc (v := (x3 + 1)) (lv' := [(3, .int (x3 + 1)), (0, .ref (ad 0)), (1, .int x1), (2, .int x2)]) hx hb dX2_slicesOf_33 hl (k := 3) rfl rfl (by decide) rfl (fun ls hl => ?_)
        refine lv_goto (tgt := 4) hx hb dX2_slicesOf_36 (by decide) ?_
        exact ih x2 (x3 + 1) hf _ _ _ hP hD hS (lv_sub hl [1, 2, 3, 0] rfl)
      · have hf := it_t c4 hf
        refine lv_iload_n hx hb dX2_slicesOf_20 rfl (lv_at hl 2 rfl) ?_
        refine lv_aload_n hx hb dX2_slicesOf_21 rfl (lv_at hl 0 rfl) ?_
        refine gf_X2_34 C0 hP 0 wdW_0 rfl dX2_slicesOf_22 ?_
        refine lv_iload_n hx hb dX2_slicesOf_25 rfl (lv_at hl 3 rfl) ?_
        obtain ⟨v5, ev5, h6, hf⟩ := zq_rd_s hf
        refine zia C0 hP 8 wdW_8 ev5 h6 dX2_slicesOf_26 ?_
        refine lv_iconst (v := 1) hx hb dX2_slicesOf_27 (by decide) ?_
        refine lv_iadd hx hb dX2_slicesOf_28 ?_
        refine zmmax C0 hl.1 kl_X2_104 ks_max ki_J9 kd_max (Nat.le_of_ble_eq_true rfl) (Nat.le_of_ble_eq_true rfl) ⟨Nat.zero_le _, Nat.zero_le _⟩ dX2_slicesOf_29 ?_
        refine lv_istore_n (lv' := [(2, .int (if x2 < (v5 + 1) then (v5 + 1) else x2)), (0, .ref (ad 0)), (1, .int x1), (3, .int x3)]) hx hb dX2_slicesOf_32 rfl hl (by decide) rfl (fun ls hl => ?_)
        refine lv_iinc (v := (x3 + 1)) (lv' := [(3, .int (x3 + 1)), (2, .int (if x2 < (v5 + 1) then (v5 + 1) else x2)), (0, .ref (ad 0)), (1, .int x1)]) hx hb dX2_slicesOf_33 hl (k := 3) rfl rfl (by decide) rfl (fun ls hl => ?_)
        refine lv_goto (tgt := 4) hx hb dX2_slicesOf_36 (by decide) ?_
        exact ih (if x2 < (v5 + 1) then (v5 + 1) else x2) (x3 + 1) hf _ _ _ hP hD hS (lv_sub hl [2, 3, 1, 0] rfl)
set_option maxHeartbeats 4000000 in
set_option maxRecDepth 100000 in
theorem c_X2_slicesOf {l : Launch} {D : va_G} {ad : Nat → Nat} {cy : Nat → ClassId} {n : zS} {x1 : Int32} {r0 : Int32} (hf : f_X2_slicesOf n x1 = some r0) : zMI l yX2_slicesOf (zW yX2_slicesOf cX2_slicesOf 4 (some .int)) { frames := 1, cells := 0, slots := 0, locals := 21 } D cy [.ref (ad 0), .int x1] (wdW ad cy n) r0 (wdW ad cy n) := by
  unfold f_X2_slicesOf at hf
  refine zEI (ty := .int) (by decide) (Nat.le_of_ble_eq_true rfl) ?_
  intro p e s9 m9 below meth c A Q C0 hret ls hl hP hD
  have hl : lv_has ls 4 [(0, .ref (ad 0)), (1, .int x1)] := hl
  have hS : va_S A s9.heap s9.heap [] := va_S.rf
  obtain ⟨hx, hb, hml, hown, hts⟩ := id C0.1
  refine lv_iconst (v := 0) hx hb dX2_slicesOf_0 (by decide) ?_
  refine lv_istore_n (lv' := [(2, .int 0), (0, .ref (ad 0)), (1, .int x1)]) hx hb dX2_slicesOf_1 rfl hl (by decide) rfl (fun ls hl => ?_)
  refine lv_iconst (v := 0) hx hb dX2_slicesOf_2 (by decide) ?_
  refine lv_istore_n (lv' := [(3, .int 0), (2, .int 0), (0, .ref (ad 0)), (1, .int x1)]) hx hb dX2_slicesOf_3 rfl hl (by decide) rfl (fun ls hl => ?_)
  obtain ⟨y8, hL7, hf⟩ := zq_b1_s hf
  refine w_X2_slicesOf_L4 C0 (fun H locs ls hP hD hS hl => ?_) 100 0 0 hL7 _ _ _ hP hD hS (lv_sub hl [2, 3, 1, 0] rfl)
  refine lv_iload_n hx hb dX2_slicesOf_39 rfl (lv_at hl 0 rfl) ?_
  obtain rfl := Option.some.inj hf
  exact hret _ _ _ _ rfl dX2_slicesOf_40 hP hD hS

def f_X2_lightTogether_L4 (n : zS) : Nat → Int32 → Int32 → Option (Int32)
  | 0, _, _ => none
  | q9 + 1, x1, x2 =>
  if (n 9 0) ≤ x2 then (
  some x1) else (
  zq_b1 (f_X2_lightOf n x2) (fun r3 =>
  f_X2_lightTogether_L4 n q9 (x1 + r3) (x2 + 1)))
def f_X2_lightTogether (n : zS)  : Option (Int32) :=
  zq_b1 (f_X2_lightTogether_L4 n 100 0 0) (fun y5 =>
  some y5)
set_option maxHeartbeats 4000000 in
set_option maxRecDepth 100000 in
theorem w_X2_lightTogether_L4 {l : Launch} {p : Program} {e : Env} {s9 : State} {m9 : MethodId} {ag : Array Value} {below : List Frame} {meth : Method} {c : Code} {A : Nat → Prop} {Q : State → Prop} {D : va_G} {ad : Nat → Nat} {cy : Nat → ClassId} {n : zS} (C0 : zCx p s9 m9 ag c cX2_lightTogether 3 RX2 D cy A)  {o1 : Int32} (e0 : ∀ (H : Heap) (locs : List Loc) (ls : Array Slot), va_P D vwCl (wdW ad cy n) H → va_D A (wdW ad cy n) → va_S A s9.heap H locs → lv_has ls 3 [(1, .int o1)] → W p l e { frames := 2, cells := 0, slots := 0, locals := 44 } s9 m9 ag below meth c H locs 0 0 Q (F0 m9 26 ls [])) : ∀ (q9 : Nat) (x1 : Int32) (x2 : Int32), f_X2_lightTogether_L4 n q9 x1 x2 = some o1 → ∀ (H : Heap) (locs : List Loc) (ls : Array Slot), va_P D vwCl (wdW ad cy n) H → va_D A (wdW ad cy n) → va_S A s9.heap H locs → lv_has ls 3 [(0, .ref (ad 0)), (1, .int x1), (2, .int x2)] → W p l e { frames := 2, cells := 0, slots := 0, locals := 44 } s9 m9 ag below meth c H locs 0 0 Q (F0 m9 4 ls []) := by
  obtain ⟨hx, hb, hml, hown, hts⟩ := id C0.1
  intro q9
  induction q9 with
  | zero =>
    intro x1 x2 hf
    rw [f_X2_lightTogether_L4] at hf
    cases hf
  | succ q9 ih =>
    intro x1 x2 hf H locs ls hP hD hS hl
    rw [f_X2_lightTogether_L4] at hf
    refine lv_iload_n hx hb dX2_lightTogether_4 rfl (lv_at hl 2 rfl) ?_
    refine lv_aload_n hx hb dX2_lightTogether_5 rfl (lv_at hl 0 rfl) ?_
    refine gf_X2_41 C0 hP 0 wdW_0 rfl dX2_lightTogether_6 ?_
    refine lv_icmp_ge (tgt := 26) hx hb dX2_lightTogether_9 (by decide) (fun c1 => ?_) (fun c1 => ?_)
    · have hf := it_t c1 hf
      obtain rfl := Option.some.inj hf
      exact e0 _ _ _ hP hD hS (lv_sub hl [1] rfl)
    · have hf := it_f c1 hf
      refine lv_iload_n hx hb dX2_lightTogether_12 rfl (lv_at hl 1 rfl) ?_
      refine lv_aload_n hx hb dX2_lightTogether_13 rfl (lv_at hl 0 rfl) ?_
      refine lv_iload_n hx hb dX2_lightTogether_14 rfl (lv_at hl 2 rfl) ?_
      obtain ⟨r3, hc2, hf⟩ := zq_b1_s hf
      refine zVI (ws' := (wdW ad cy n)) (rest := [.int x1]) C0 (fun _ h => h) zF.id (c_X2_lightOf hc2) hP hD hS my_X2_lightOf kl_X2_110 ⟨rfl, rfl⟩ ⟨Nat.le_of_ble_eq_true rfl, Nat.le_of_ble_eq_true rfl⟩ (q0 := 0) (ci := 2) rfl wdW_0 rfl hl.1 rfl (Nat.le_of_ble_eq_true rfl) dX2_lightTogether_15 ⟨Nat.zero_le _, Nat.zero_le _⟩ (fun H locs hP hD hS => ?_)
      refine lv_iadd hx hb dX2_lightTogether_18 ?_
      refine lv_istore_n (lv' := [(1, .int (x1 + r3)), (0, .ref (ad 0)), (2, .int x2)]) hx hb dX2_lightTogether_19 rfl hl (by decide) rfl (fun ls hl => ?_)
      refine lv_iinc (v := (x2 + 1)) (lv' := [(2, .int (x2 + 1)), (1, .int (x1 + r3)), (0, .ref (ad 0))]) hx hb dX2_lightTogether_20 hl (k := 2) rfl rfl (by decide) rfl (fun ls hl => ?_)
      refine lv_goto (tgt := 4) hx hb dX2_lightTogether_23 (by decide) ?_
      exact ih (x1 + r3) (x2 + 1) hf _ _ _ hP hD hS (lv_sub hl [2, 1, 0] rfl)
set_option maxHeartbeats 4000000 in
set_option maxRecDepth 100000 in
theorem c_X2_lightTogether {l : Launch} {D : va_G} {ad : Nat → Nat} {cy : Nat → ClassId} {n : zS}  {r0 : Int32} (hf : f_X2_lightTogether n = some r0) : zMI l yX2_lightTogether (zW yX2_lightTogether cX2_lightTogether 3 (some .int)) { frames := 2, cells := 0, slots := 0, locals := 44 } D cy [.ref (ad 0)] (wdW ad cy n) r0 (wdW ad cy n) := by
  unfold f_X2_lightTogether at hf
  refine zEI (ty := .int) (by decide) (Nat.le_of_ble_eq_true rfl) ?_
  intro p e s9 m9 below meth c A Q C0 hret ls hl hP hD
  have hl : lv_has ls 3 [(0, .ref (ad 0))] := hl
  have hS : va_S A s9.heap s9.heap [] := va_S.rf
  obtain ⟨hx, hb, hml, hown, hts⟩ := id C0.1
  refine lv_iconst (v := 0) hx hb dX2_lightTogether_0 (by decide) ?_
  refine lv_istore_n (lv' := [(1, .int 0), (0, .ref (ad 0))]) hx hb dX2_lightTogether_1 rfl hl (by decide) rfl (fun ls hl => ?_)
  refine lv_iconst (v := 0) hx hb dX2_lightTogether_2 (by decide) ?_
  refine lv_istore_n (lv' := [(2, .int 0), (1, .int 0), (0, .ref (ad 0))]) hx hb dX2_lightTogether_3 rfl hl (by decide) rfl (fun ls hl => ?_)
  obtain ⟨y5, hL4, hf⟩ := zq_b1_s hf
  refine w_X2_lightTogether_L4 C0 (fun H locs ls hP hD hS hl => ?_) 100 0 0 hL4 _ _ _ hP hD hS (lv_sub hl [2, 1, 0] rfl)
  refine lv_iload_n hx hb dX2_lightTogether_26 rfl (lv_at hl 0 rfl) ?_
  obtain rfl := Option.some.inj hf
  exact hret _ _ _ _ rfl dX2_lightTogether_27 hP hD hS
