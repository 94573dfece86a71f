def f_X0_note (r : zS) (x1 : Int32) (x2 : Int32) (x3 : Int32) : Option (Int32 × zS) :=
  zq_in 8 (r 3 0) (zq_lt (va_up r 0 (upd (r 0) (Int32.toNatClampNeg (r 3 0)) x1)) (fun r2 =>
  zq_in 8 (r2 3 0) (zq_lt (va_up r2 1 (upd (r2 1) (Int32.toNatClampNeg (r2 3 0)) x2)) (fun r4 =>
  zq_in 8 (r4 3 0) (zq_lt (va_up r4 2 (upd (r4 2) (Int32.toNatClampNeg (r4 3 0)) (vp_nar .boolean x3))) (fun r6 =>
  zq_lt (va_up r6 3 (fun _ => ((r6 3 0) + 1))) (fun r7 =>
  some (((r7 3 0) - 1), r7))))))))
set_option maxHeartbeats 4000000 in
set_option maxRecDepth 100000 in
theorem c_X0_note {l : Launch} {D : va_G} {ad : Nat → Nat} {cy : Nat → ClassId} {r : zS} {x1 : Int32} {x2 : Int32} {x3 : Int32} {r0 : Int32} {r' : zS} (hf : f_X0_note r x1 x2 x3 = some (r0, r')) : zMI l yX0_note (zW yX0_note cX0_note 4 (some .int)) { frames := 0, cells := 0, slots := 0, locals := 0 } D cy [.ref (ad 0), .int x1, .int x2, .int x3] (wdR ad cy r) r0 (wdR ad cy r') := by
  unfold f_X0_note at hf
  refine zEI (ty := .int) (by decide) (Nat.le_of_ble_eq_true rfl) ?_
  intro p e s9 m9 below meth c A Q C0 hret ls hl hP hD
  have hl : lv_has ls 4 [(0, .ref (ad 0)), (1, .int x1), (2, .int x2), (3, .int x3)] := hl
  have hS : va_S A s9.heap s9.heap [] := va_S.rf
  obtain ⟨hx, hb, hml, hown, hts⟩ := id C0.1
  refine lv_aload_n hx hb dX0_note_0 rfl (lv_at hl 0 rfl) ?_
  refine gf_X0_9 C0 hP 0 wdR_0 rfl dX0_note_1 ?_
  refine lv_aload_n hx hb dX0_note_4 rfl (lv_at hl 0 rfl) ?_
  refine gf_X0_22 C0 hP 0 wdR_0 rfl dX0_note_5 ?_
  refine lv_iload_n hx hb dX0_note_8 rfl (lv_at hl 1 rfl) ?_
  obtain ⟨h1, hf⟩ := zq_in_s hf
  obtain ⟨r2, er2, hf⟩ := zq_lt_s hf
  refine zis (ws' := (wdR ad cy r2)) C0 hP hD hS 1 wdR_1 h1 (by rw [er2]; rfl) dX0_note_9 (fun H locs hP hD hS => ?_)
  refine lv_aload_n hx hb dX0_note_10 rfl (lv_at hl 0 rfl) ?_
  refine gf_X0_15 C0 hP 0 wdR_0 rfl dX0_note_11 ?_
  refine lv_aload_n hx hb dX0_note_14 rfl (lv_at hl 0 rfl) ?_
  refine gf_X0_22 C0 hP 0 wdR_0 rfl dX0_note_15 ?_
  refine lv_iload_n hx hb dX0_note_18 rfl (lv_at hl 2 rfl) ?_
  obtain ⟨h3, hf⟩ := zq_in_s hf
  obtain ⟨r4, er4, hf⟩ := zq_lt_s hf
  refine zis (ws' := (wdR ad cy r4)) C0 hP hD hS 2 wdR_2 h3 (by rw [er4]; rfl) dX0_note_19 (fun H locs hP hD hS => ?_)
  refine lv_aload_n hx hb dX0_note_20 rfl (lv_at hl 0 rfl) ?_
  refine gf_X0_18 C0 hP 0 wdR_0 rfl dX0_note_21 ?_
  refine lv_aload_n hx hb dX0_note_24 rfl (lv_at hl 0 rfl) ?_
  refine gf_X0_22 C0 hP 0 wdR_0 rfl dX0_note_25 ?_
  refine lv_iload_n hx hb dX0_note_28 rfl (lv_at hl 3 rfl) ?_
  obtain ⟨h5, hf⟩ := zq_in_s hf
  obtain ⟨r6, er6, hf⟩ := zq_lt_s hf
  refine zzs (ws' := (wdR ad cy r6)) C0 hP hD hS 3 wdR_3 h5 (by rw [er6]; rfl) dX0_note_29 (fun H locs hP hD hS => ?_)
  refine lv_aload_n hx hb dX0_note_30 rfl (lv_at hl 0 rfl) ?_
  refine lv_dup hx hb dX0_note_31 rfl ?_
  refine gf_X0_22 C0 hP 0 wdR_0 rfl dX0_note_32 ?_
  refine lv_iconst (v := 1) hx hb dX0_note_35 (by decide) ?_
  refine lv_iadd hx hb dX0_note_36 ?_
  obtain ⟨r7, er7, hf⟩ := zq_lt_s hf
  refine pf_X0_22 (ws' := (wdR ad cy r7)) C0 hP hD hS 0 wdR_0 (Nat.le_of_ble_eq_true rfl) (by rw [er7]; rfl) dX0_note_37 (fun H locs hP hD hS => ?_)
  refine lv_aload_n hx hb dX0_note_40 rfl (lv_at hl 0 rfl) ?_
  refine gf_X0_22 C0 hP 0 wdR_0 rfl dX0_note_41 ?_
  refine lv_iconst (v := 1) hx hb dX0_note_44 (by decide) ?_
  refine lv_isub hx hb dX0_note_45 ?_
  obtain ⟨rfl, rfl⟩ := zq_j2 hf
  exact hret _ _ _ _ rfl dX0_note_46 hP hD hS

def f_X3_lightBy  (x0 : Int32) (x1 : Int32) : Option (Int32) :=
  if x0 = 1 then (
  some (x1 / 2)) else (
  if x0 = 2 then (
  some ((x1 / 2) + x1)) else (
  some x1))
set_option maxHeartbeats 4000000 in
set_option maxRecDepth 100000 in
theorem c_X3_lightBy {l : Launch} {D : va_G} {cy : Nat → ClassId}   {x0 : Int32} {x1 : Int32} {r0 : Int32} (hf : f_X3_lightBy x0 x1 = some r0) : zMI l yX3_lightBy (zW yX3_lightBy cX3_lightBy 3 (some .int)) { frames := 0, cells := 0, slots := 0, locals := 0 } D cy [.int x0, .int x1] [] r0 [] := by
  unfold f_X3_lightBy at hf
  refine zEI (ty := .int) (by decide) (Nat.le_of_ble_eq_true rfl) ?_
  intro p e s9 m9 below meth c A Q C0 hret ls hl hP hD
  have hl : lv_has ls 3 [(0, .int x0), (1, .int x1)] := hl
  have hS : va_S A s9.heap s9.heap [] := va_S.rf
  obtain ⟨hx, hb, hml, hown, hts⟩ := id C0.1
  refine lv_iload_n hx hb dX3_lightBy_0 rfl (lv_at hl 1 rfl) ?_
  refine lv_iconst (v := 2) hx hb dX3_lightBy_1 (by decide) ?_
  refine lv_idiv hx hb dX3_lightBy_2 (by decide) ?_
  refine lv_istore_n (lv' := [(2, .int (x1 / 2)), (0, .int x0), (1, .int x1)]) hx hb dX3_lightBy_3 rfl hl (by decide) rfl (fun ls hl => ?_)
  refine lv_iload_n hx hb dX3_lightBy_4 rfl (lv_at hl 1 rfl) ?_
  by_cases c1 : x0 = 1
  · have hf := it_t c1 hf
    refine lv_lookup (off := 31) (tgt := 36) hx hb dX3_lightBy_5 (by decide) (by rw [c1]; rfl) (by decide) ?_
    refine lv_iload_n hx hb dX3_lightBy_36 rfl (lv_at hl 0 rfl) ?_
    obtain rfl := Option.some.inj hf
    exact hret _ _ _ _ rfl dX3_lightBy_37 hP hD hS
  have hf := it_f c1 hf
  by_cases c2 : x0 = 2
  · have hf := it_t c2 hf
    refine lv_lookup (off := 27) (tgt := 32) hx hb dX3_lightBy_5 (by decide) (by rw [c2]; rfl) (by decide) ?_
    refine lv_iload_n hx hb dX3_lightBy_32 rfl (lv_at hl 0 rfl) ?_
    refine lv_iload_n hx hb dX3_lightBy_33 rfl (lv_at hl 2 rfl) ?_
    refine lv_iadd hx hb dX3_lightBy_34 ?_
    obtain rfl := Option.some.inj hf
    exact hret _ _ _ _ rfl dX3_lightBy_35 hP hD hS
  have hf := it_f c2 hf
  refine lv_lookup (off := 33) (tgt := 38) hx hb dX3_lightBy_5 (by decide) ((lv_osw c1 (by decide)).trans ((lv_osw c2 (by decide)).trans rfl)) (by decide) ?_
  refine lv_iload_n hx hb dX3_lightBy_38 rfl (lv_at hl 2 rfl) ?_
  obtain rfl := Option.some.inj hf
  exact hret _ _ _ _ rfl dX3_lightBy_39 hP hD hS

def f_X2_lightOf (n : zS) (x1 : Int32) : Option (Int32) :=
  zq_rd (n 5) 16 x1 (fun v1 =>
  zq_rd (n 3) 4 v1 (fun v3 =>
  if v3 = 0 then (
  zq_rd (n 0) 4 v1 (fun v6 =>
  zq_rd (n 4) 16 x1 (fun v8 =>
  zq_b1 (f_X3_lightBy v6 v8) (fun r11 =>
  some r11)))) else (
  some 0)))
set_option maxHeartbeats 4000000 in
set_option maxRecDepth 100000 in
theorem c_X2_lightOf {l : Launch} {D : va_G} {ad : Nat → Nat} {cy : Nat → ClassId} {n : zS} {x1 : Int32} {r0 : Int32} (hf : f_X2_lightOf n x1 = some r0) : zMI l yX2_lightOf (zW yX2_lightOf cX2_lightOf 3 (some .int)) { frames := 1, cells := 0, slots := 0, locals := 22 } D cy [.ref (ad 0), .int x1] (wdW ad cy n) r0 (wdW ad cy n) := by
  unfold f_X2_lightOf at hf
  refine zEI (ty := .int) (by decide) (Nat.le_of_ble_eq_true rfl) ?_
  intro p e s9 m9 below meth c A Q C0 hret ls hl hP hD
  have hl : lv_has ls 3 [(0, .ref (ad 0)), (1, .int x1)] := hl
  have hS : va_S A s9.heap s9.heap [] := va_S.rf
  obtain ⟨hx, hb, hml, hown, hts⟩ := id C0.1
  refine lv_aload_n hx hb dX2_lightOf_0 rfl (lv_at hl 0 rfl) ?_
  refine gf_X2_28 C0 hP 0 wdW_0 rfl dX2_lightOf_1 ?_
  refine lv_iload_n hx hb dX2_lightOf_4 rfl (lv_at hl 1 rfl) ?_
  obtain ⟨v1, ev1, h2, hf⟩ := zq_rd_s hf
  refine zia C0 hP 6 wdW_6 ev1 h2 dX2_lightOf_5 ?_
  refine lv_istore_n (lv' := [(2, .int v1), (0, .ref (ad 0)), (1, .int x1)]) hx hb dX2_lightOf_6 rfl hl (by decide) rfl (fun ls hl => ?_)
  refine lv_aload_n hx hb dX2_lightOf_7 rfl (lv_at hl 1 rfl) ?_
  refine gf_X2_21 C0 hP 0 wdW_0 rfl dX2_lightOf_8 ?_
  refine lv_iload_n hx hb dX2_lightOf_11 rfl (lv_at hl 0 rfl) ?_
  obtain ⟨v3, ev3, h4, hf⟩ := zq_rd_s hf
  refine zza C0 hP 4 wdW_4 ev3 h4 dX2_lightOf_12 ?_
  refine lv_if_eq (tgt := 20) hx hb dX2_lightOf_13 (by decide) (fun c5 => ?_) (fun c5 => ?_)
  · have hf := it_t c5 hf
    refine lv_aload_n hx hb dX2_lightOf_20 rfl (lv_at hl 1 rfl) ?_
    refine gf_X2_9 C0 hP 0 wdW_0 rfl dX2_lightOf_21 ?_
    refine lv_iload_n hx hb dX2_lightOf_24 rfl (lv_at hl 0 rfl) ?_
    obtain ⟨v6, ev6, h7, hf⟩ := zq_rd_s hf
    refine zia C0 hP 1 wdW_1 ev6 h7 dX2_lightOf_25 ?_
    refine lv_aload_n hx hb dX2_lightOf_26 rfl (lv_at hl 1 rfl) ?_
    refine gf_X2_25 C0 hP 0 wdW_0 rfl dX2_lightOf_27 ?_
    refine lv_iload_n hx hb dX2_lightOf_30 rfl (lv_at hl 2 rfl) ?_
    obtain ⟨v8, ev8, h9, hf⟩ := zq_rd_s hf
    refine zia C0 hP 5 wdW_5 ev8 h9 dX2_lightOf_31 ?_
    obtain ⟨r11, hc10, hf⟩ := zq_b1_s hf
    refine zNI (ws' := (wdW ad cy n)) (rest := []) C0 (fun _ h => h) zF.nil (c_X3_lightBy hc10) hP hD hS my_X3_lightBy C0.2.2.2.2.2.2.2.2.1 ⟨rfl, rfl⟩ ⟨Nat.le_of_ble_eq_true rfl, Nat.le_of_ble_eq_true rfl⟩ rfl hl.1 rfl (Nat.le_of_ble_eq_true rfl) dX2_lightOf_32 ⟨Nat.zero_le _, Nat.zero_le _⟩ (fun H locs hP hD hS => ?_)
    obtain rfl := Option.some.inj hf
    exact hret _ _ _ _ rfl dX2_lightOf_35 hP hD hS
  · have hf := it_f c5 hf
    refine lv_iconst (v := 0) hx hb dX2_lightOf_16 (by decide) ?_
    refine lv_goto (tgt := 35) hx hb dX2_lightOf_17 (by decide) ?_
    obtain rfl := Option.some.inj hf
    exact hret _ _ _ _ rfl dX2_lightOf_35 hP hD hS

def f_X3_hasBit  (x0 : Int32) (x1 : Int32) : Option (Int32) :=
  if ((x0 >>> (x1 &&& 31)) &&& 1) = 1 then (
  some 1) else (
  some 0)
set_option maxHeartbeats 4000000 in
set_option maxRecDepth 100000 in
theorem c_X3_hasBit {l : Launch} {D : va_G} {cy : Nat → ClassId}   {x0 : Int32} {x1 : Int32} {r0 : Int32} (hf : f_X3_hasBit x0 x1 = some r0) : zMI l yX3_hasBit (zW yX3_hasBit cX3_hasBit 2 (some .boolean)) { frames := 0, cells := 0, slots := 0, locals := 0 } D cy [.int x0, .int x1] [] r0 [] := by
  unfold f_X3_hasBit at hf
  refine zEI (ty := .boolean) (by decide) (Nat.le_of_ble_eq_true rfl) ?_
  intro p e s9 m9 below meth c A Q C0 hret ls hl hP hD
  have hl : lv_has ls 2 [(0, .int x0), (1, .int x1)] := hl
  have hS : va_S A s9.heap s9.heap [] := va_S.rf
  obtain ⟨hx, hb, hml, hown, hts⟩ := id C0.1
  refine lv_iload_n hx hb dX3_hasBit_0 rfl (lv_at hl 0 rfl) ?_
  refine lv_iload_n hx hb dX3_hasBit_1 rfl (lv_at hl 1 rfl) ?_
  refine lv_ishr hx hb dX3_hasBit_2 ?_
  refine lv_iconst (v := 1) hx hb dX3_hasBit_3 (by decide) ?_
  refine lv_iand hx hb dX3_hasBit_4 ?_
  refine lv_iconst (v := 1) hx hb dX3_hasBit_5 (by decide) ?_
  refine lv_icmp_ne (tgt := 13) hx hb dX3_hasBit_6 (by decide) (fun c1 => ?_) (fun c1 => ?_)
  · have hf := it_f c1 hf
    refine lv_iconst (v := 0) hx hb dX3_hasBit_13 (by decide) ?_
    obtain rfl := Option.some.inj hf
    exact hret _ _ _ _ rfl dX3_hasBit_14 hP hD hS
  · have hf := it_t c1 hf
    refine lv_iconst (v := 1) hx hb dX3_hasBit_9 (by decide) ?_
    refine lv_goto (tgt := 14) hx hb dX3_hasBit_10 (by decide) ?_
    obtain rfl := Option.some.inj hf
    exact hret _ _ _ _ rfl dX3_hasBit_14 hP hD hS

def f_X2_isLit (n : zS) (x1 : Int32) (x2 : Int32) : Option (Int32) :=
  zq_b1 (f_X2_lightOf n x1) (fun r2 =>
  zq_rd (n 6) 15 x2 (fun v3 =>
  zq_b1 (f_X3_hasBit r2 v3) (fun r6 =>
  zq_z r6 (some r6))))
set_option maxHeartbeats 4000000 in
set_option maxRecDepth 100000 in
theorem c_X2_isLit {l : Launch} {D : va_G} {ad : Nat → Nat} {cy : Nat → ClassId} {n : zS} {x1 : Int32} {x2 : Int32} {r0 : Int32} (hf : f_X2_isLit n x1 x2 = some r0) : zMI l yX2_isLit (zW yX2_isLit cX2_isLit 3 (some .boolean)) { frames := 2, cells := 0, slots := 0, locals := 44 } D cy [.ref (ad 0), .int x1, .int x2] (wdW ad cy n) r0 (wdW ad cy n) := by
  unfold f_X2_isLit at hf
  refine zEI (ty := .boolean) (by decide) (Nat.le_of_ble_eq_true rfl) ?_
  intro p e s9 m9 below meth c A Q C0 hret ls hl hP hD
  have hl : lv_has ls 3 [(0, .ref (ad 0)), (1, .int x1), (2, .int x2)] := hl
  have hS : va_S A s9.heap s9.heap [] := va_S.rf
  obtain ⟨hx, hb, hml, hown, hts⟩ := id C0.1
  refine lv_aload_n hx hb dX2_isLit_0 rfl (lv_at hl 0 rfl) ?_
  refine lv_iload_n hx hb dX2_isLit_1 rfl (lv_at hl 1 rfl) ?_
  obtain ⟨r2, hc1, hf⟩ := zq_b1_s hf
  refine zVI (ws' := (wdW ad cy n)) (rest := []) C0 (fun _ h => h) zF.id (c_X2_lightOf hc1) hP hD hS my_X2_lightOf kl_X2_110 ⟨rfl, rfl⟩ ⟨Nat.le_of_ble_eq_true rfl, Nat.le_of_ble_eq_true rfl⟩ (q0 := 0) (ci := 2) rfl wdW_0 rfl hl.1 rfl (Nat.le_of_ble_eq_true rfl) dX2_isLit_2 ⟨Nat.zero_le _, Nat.zero_le _⟩ (fun H locs hP hD hS => ?_)
  refine lv_aload_n hx hb dX2_isLit_5 rfl (lv_at hl 0 rfl) ?_
  refine gf_X2_31 C0 hP 0 wdW_0 rfl dX2_isLit_6 ?_
  refine lv_iload_n hx hb dX2_isLit_9 rfl (lv_at hl 2 rfl) ?_
  obtain ⟨v3, ev3, h4, hf⟩ := zq_rd_s hf
  refine zia C0 hP 7 wdW_7 ev3 h4 dX2_isLit_10 ?_
  obtain ⟨r6, hc5, hf⟩ := zq_b1_s hf
  refine zNI (ws' := (wdW ad cy n)) (rest := []) C0 (fun _ h => h) zF.nil (c_X3_hasBit hc5) hP hD hS my_X3_hasBit C0.2.2.2.2.2.2.2.2.2.1 ⟨rfl, rfl⟩ ⟨Nat.le_of_ble_eq_true rfl, Nat.le_of_ble_eq_true rfl⟩ rfl hl.1 rfl (Nat.le_of_ble_eq_true rfl) dX2_isLit_11 ⟨Nat.zero_le _, Nat.zero_le _⟩ (fun H locs hP hD hS => ?_)
  obtain ⟨h7, hf⟩ := zq_z_s hf
  obtain rfl := Option.some.inj hf
  exact hret _ _ _ _ (zq_nz h7) dX2_isLit_14 hP hD hS

def f_X0_holdFor_L2 (r : zS) (n : zS) : Nat → Int32 → Option ((Unit) ⊕ (Unit))
  | 0, _ => none
  | q9 + 1, x2 =>
  if (r 3 0) ≤ x2 then (
  some (Sum.inl ())) else (
  zq_rd (r 1) 8 x2 (fun v2 =>
  zq_rd (r 0) 8 x2 (fun v4 =>
  zq_b1 (f_X2_isLit n v2 v4) (fun r7 =>
  zq_rd (r 2) 8 x2 (fun v8 =>
  if r7 = v8 then (
  f_X0_holdFor_L2 r n q9 (x2 + 1)) else (
  some (Sum.inr ())))))))
def f_X0_holdFor (r : zS) (n : zS)  : Option (Int32) :=
  zq_s1_1 (f_X0_holdFor_L2 r n 100 0) (fun _u =>
  some 1) (fun _u =>
  some 0)
set_option maxHeartbeats 4000000 in
set_option maxRecDepth 100000 in
theorem w_X0_holdFor_L2 {l : Launch} {p : Program} {e : Env} {s9 : State} {m9 : MethodId} {ag : Array Value} {below : List Frame} {meth : Method} {c : Code} {A : Nat → Prop} {Q : State → Prop} {D : va_G} {ad : Nat → Nat} {cy : Nat → ClassId} {a2 : Nat → Nat} {r : zS} {n : zS} (C0 : zCx p s9 m9 ag c cX0_holdFor 3 RX0 D cy A)  {out : (Unit) ⊕ (Unit)} (e0 : ∀ (uu : Unit), out = Sum.inl uu → ∀ (H : Heap) (locs : List Loc) (ls : Array Slot), va_P D vwCl (wdRW ad a2 cy r n) H → va_D A (wdRW ad a2 cy r n) → va_S A s9.heap H locs → lv_has ls 3 [] → W p l e { frames := 3, cells := 0, slots := 0, locals := 66 } s9 m9 ag below meth c H locs 0 0 Q (F0 m9 43 ls [])) (e1 : ∀ (uu : Unit), out = Sum.inr uu → ∀ (H : Heap) (locs : List Loc) (ls : Array Slot), va_P D vwCl (wdRW ad a2 cy r n) H → va_D A (wdRW ad a2 cy r n) → va_S A s9.heap H locs → lv_has ls 3 [] → W p l e { frames := 3, cells := 0, slots := 0, locals := 66 } s9 m9 ag below meth c H locs 0 0 Q (F0 m9 35 ls [])) : ∀ (q9 : Nat) (x2 : Int32), f_X0_holdFor_L2 r n q9 x2 = some out → ∀ (H : Heap) (locs : List Loc) (ls : Array Slot), va_P D vwCl (wdRW ad a2 cy r n) H → va_D A (wdRW ad a2 cy r n) → va_S A s9.heap H locs → lv_has ls 3 [(0, .ref (ad 0)), (1, .ref (a2 0)), (2, .int x2)] → W p l e { frames := 3, cells := 0, slots := 0, locals := 66 } s9 m9 ag below meth c H locs 0 0 Q (F0 m9 2 ls []) := by
  obtain ⟨hx, hb, hml, hown, hts⟩ := id C0.1
  intro q9
  induction q9 with
  | zero =>
    intro x2 hf
    rw [f_X0_holdFor_L2] at hf
    cases hf
  | succ q9 ih =>
    intro x2 hf H locs ls hP hD hS hl
    rw [f_X0_holdFor_L2] at hf
    refine lv_iload_n hx hb dX0_holdFor_2 rfl (lv_at hl 2 rfl) ?_
    refine lv_aload_n hx hb dX0_holdFor_3 rfl (lv_at hl 0 rfl) ?_
    refine gf_X0_22 C0 hP 0 wdRW_0 rfl dX0_holdFor_4 ?_
    refine lv_icmp_ge (tgt := 43) hx hb dX0_holdFor_7 (by decide) (fun c1 => ?_) (fun c1 => ?_)
    · have hf := it_t c1 hf
      exact e0 () (Option.some.inj hf).symm _ _ _ hP hD hS (lv_sub hl [] rfl)
    · have hf := it_f c1 hf
      refine lv_aload_n hx hb dX0_holdFor_10 rfl (lv_at hl 1 rfl) ?_
      refine lv_aload_n hx hb dX0_holdFor_11 rfl (lv_at hl 0 rfl) ?_
      refine gf_X0_15 C0 hP 0 wdRW_0 rfl dX0_holdFor_12 ?_
      refine lv_iload_n hx hb dX0_holdFor_15 rfl (lv_at hl 2 rfl) ?_
      obtain ⟨v2, ev2, h3, hf⟩ := zq_rd_s hf
      refine zia C0 hP 2 wdRW_2 ev2 h3 dX0_holdFor_16 ?_
      refine lv_aload_n hx hb dX0_holdFor_17 rfl (lv_at hl 0 rfl) ?_
      refine gf_X0_9 C0 hP 0 wdRW_0 rfl dX0_holdFor_18 ?_
      refine lv_iload_n hx hb dX0_holdFor_21 rfl (lv_at hl 2 rfl) ?_
      obtain ⟨v4, ev4, h5, hf⟩ := zq_rd_s hf
      refine zia C0 hP 1 wdRW_1 ev4 h5 dX0_holdFor_22 ?_
      obtain ⟨r7, hc6, hf⟩ := zq_b1_s hf
      refine zVI (ws' := (wdRW ad a2 cy r n)) (rest := []) C0 (fun _ h => h) fRW_n (c_X2_isLit (ad := a2) hc6) hP hD hS my_X2_isLit kl_X0_26 ⟨rfl, rfl⟩ ⟨Nat.le_of_ble_eq_true rfl, Nat.le_of_ble_eq_true rfl⟩ (q0 := 4) (ci := 2) rfl wdRW_4 rfl hl.1 rfl (Nat.le_of_ble_eq_true rfl) dX0_holdFor_23 ⟨Nat.zero_le _, Nat.zero_le _⟩ (fun H locs hP hD hS => ?_)
      refine lv_aload_n hx hb dX0_holdFor_26 rfl (lv_at hl 0 rfl) ?_
      refine gf_X0_18 C0 hP 0 wdRW_0 rfl dX0_holdFor_27 ?_
      refine lv_iload_n hx hb dX0_holdFor_30 rfl (lv_at hl 2 rfl) ?_
      obtain ⟨v8, ev8, h9, hf⟩ := zq_rd_s hf
      refine zza C0 hP 3 wdRW_3 ev8 h9 dX0_holdFor_31 ?_
      refine lv_icmp_eq (tgt := 37) hx hb dX0_holdFor_32 (by decide) (fun c10 => ?_) (fun c10 => ?_)
      · have hf := it_t c10 hf
        refine lv_iinc (v := (x2 + 1)) (lv' := [(2, .int (x2 + 1)), (0, .ref (ad 0)), (1, .ref (a2 0))]) hx hb dX0_holdFor_37 hl (k := 2) rfl rfl (by decide) rfl (fun ls hl => ?_)
        refine lv_goto (tgt := 2) hx hb dX0_holdFor_40 (by decide) ?_
        exact ih (x2 + 1) hf _ _ _ hP hD hS (lv_sub hl [1, 2, 0] rfl)
      · have hf := it_f c10 hf
        exact e1 () (Option.some.inj hf).symm _ _ _ hP hD hS (lv_sub hl [] rfl)
set_option maxHeartbeats 4000000 in
set_option maxRecDepth 100000 in
theorem c_X0_holdFor {l : Launch} {D : va_G} {ad : Nat → Nat} {cy : Nat → ClassId} {a2 : Nat → Nat} {r : zS} {n : zS}  {r0 : Int32} (hf : f_X0_holdFor r n = some r0) : zMI l yX0_holdFor (zW yX0_holdFor cX0_holdFor 3 (some .boolean)) { frames := 3, cells := 0, slots := 0, locals := 66 } D cy [.ref (ad 0), .ref (a2 0)] (wdRW ad a2 cy r n) r0 (wdRW ad a2 cy r n) := by
  unfold f_X0_holdFor at hf
  refine zEI (ty := .boolean) (by decide) (Nat.le_of_ble_eq_true rfl) ?_
  intro p e s9 m9 below meth c A Q C0 hret ls hl hP hD
  have hl : lv_has ls 3 [(0, .ref (ad 0)), (1, .ref (a2 0))] := hl
  have hS : va_S A s9.heap s9.heap [] := va_S.rf
  obtain ⟨hx, hb, hml, hown, hts⟩ := id C0.1
  refine lv_iconst (v := 0) hx hb dX0_holdFor_0 (by decide) ?_
  refine lv_istore_n (lv' := [(2, .int 0), (0, .ref (ad 0)), (1, .ref (a2 0))]) hx hb dX0_holdFor_1 rfl hl (by decide) rfl (fun ls hl => ?_)
  rcases zq_s1_1_s hf with ⟨_u, hL11, hf⟩ | ⟨_u, hL11, hf⟩
  · refine w_X0_holdFor_L2 C0 (zq_el1 ?_) (zq_nr1) 100 0 hL11 _ _ _ hP hD hS (lv_sub hl [1, 2, 0] rfl)
    intro H locs ls hP hD hS hl
    refine lv_iconst (v := 1) hx hb dX0_holdFor_43 (by decide) ?_
    obtain rfl := Option.some.inj hf
    exact hret _ _ _ _ rfl dX0_holdFor_44 hP hD hS
  · refine w_X0_holdFor_L2 C0 (zq_nl1) (zq_er1 ?_) 100 0 hL11 _ _ _ hP hD hS (lv_sub hl [1, 2, 0] rfl)
    intro H locs ls hP hD hS hl
    refine lv_iconst (v := 0) hx hb dX0_holdFor_35 (by decide) ?_
    obtain rfl := Option.some.inj hf
    exact hret _ _ _ _ rfl dX0_holdFor_36 hP hD hS

def f_J7_fill_53178_L5 (ln : Nat) (x1 : Int32) (x3 : Int32) : Nat → Int32 → zI → Option (zI)
  | 0, _, _ => none
  | q9 + 1, x2, f =>
  if x3 ≤ x2 then (
  some f) else (
  zq_in ln x2 (zq_lt ((upd (f) (Int32.toNatClampNeg x2) x1)) (fun f3 =>
  f_J7_fill_53178_L5 ln x1 x3 q9 (x2 + 1) f3)))
def f_J7_fill_53178 (ln : Nat) (f : zI) (x1 : Int32) : Option (zI) :=
  zq_b1 (f_J7_fill_53178_L5 ln x1 (Int32.ofNat ln) 100 0 f) (fun f5 =>
  some f5)
set_option maxHeartbeats 4000000 in
set_option maxRecDepth 100000 in
theorem w_J7_fill_53178_L5 {l : Launch} {p : Program} {e : Env} {s9 : State} {m9 : MethodId} {ag : Array Value} {below : List Frame} {meth : Method} {c : Code} {A : Nat → Prop} {Q : State → Prop} {D : va_G} {ad : Nat} {cy : Nat → ClassId} {ln : Nat} {x1 : Int32} {x3 : Int32} (C0 : zCx p s9 m9 ag c cJ7_fill_53178 4 RJ7 D cy A)  {fo : zI} (e0 : ∀ (H : Heap) (locs : List Loc) (ls : Array Slot), va_P D vwCl (wdAI ad cy ln fo) H → va_D A (wdAI ad cy ln fo) → va_S A s9.heap H locs → lv_has ls 4 [] → W p l e { frames := 0, cells := 0, slots := 0, locals := 0 } s9 m9 ag below meth c H locs 0 0 Q (F0 m9 20 ls [])) : ∀ (q9 : Nat) (x2 : Int32) (f : zI), f_J7_fill_53178_L5 ln x1 x3 q9 x2 f = some fo → ∀ (H : Heap) (locs : List Loc) (ls : Array Slot), va_P D vwCl (wdAI ad cy ln f) H → va_D A (wdAI ad cy ln f) → va_S A s9.heap H locs → lv_has ls 4 [(0, .ref ad), (1, .int x1), (2, .int x2), (3, .int x3)] → W p l e { frames := 0, cells := 0, slots := 0, locals := 0 } s9 m9 ag below meth c H locs 0 0 Q (F0 m9 5 ls []) := by
  obtain ⟨hx, hb, hml, hown, hts⟩ := id C0.1
  intro q9
  induction q9 with
  | zero =>
    intro x2 f hf
    rw [f_J7_fill_53178_L5] at hf
    cases hf
  | succ q9 ih =>
    intro x2 f hf H locs ls hP hD hS hl
    rw [f_J7_fill_53178_L5] at hf
    refine lv_iload_n hx hb dJ7_fill_53178_5 rfl (lv_at hl 2 rfl) ?_
    refine lv_iload_n hx hb dJ7_fill_53178_6 rfl (lv_at hl 3 rfl) ?_
    refine lv_icmp_ge (tgt := 20) hx hb dJ7_fill_53178_7 (by decide) (fun c1 => ?_) (fun c1 => ?_)
    · have hf := it_t c1 hf
      obtain rfl := Option.some.inj hf
      exact e0 _ _ _ hP hD hS (lv_sub hl [] rfl)
    · have hf := it_f c1 hf
      refine lv_aload_n hx hb dJ7_fill_53178_10 rfl (lv_at hl 0 rfl) ?_
      refine lv_iload_n hx hb dJ7_fill_53178_11 rfl (lv_at hl 2 rfl) ?_
      refine lv_iload_n hx hb dJ7_fill_53178_12 rfl (lv_at hl 1 rfl) ?_
      obtain ⟨h2, hf⟩ := zq_in_s hf
      obtain ⟨f3, ef3, hf⟩ := zq_lt_s hf
      refine zis (ws' := (wdAI ad cy ln f3)) C0 hP hD hS 0 wdAI_0 h2 (by rw [ef3]; rfl) dJ7_fill_53178_13 (fun H locs hP hD hS => ?_)
      refine lv_iinc (v := (x2 + 1)) (lv' := [(2, .int (x2 + 1)), (0, .ref ad), (1, .int x1), (3, .int x3)]) hx hb dJ7_fill_53178_14 hl (k := 2) rfl rfl (by decide) rfl (fun ls hl => ?_)
      refine lv_goto (tgt := 5) hx hb dJ7_fill_53178_17 (by decide) ?_
      exact ih (x2 + 1) f3 hf _ _ _ hP hD hS (lv_sub hl [1, 2, 0, 3] rfl)
set_option maxHeartbeats 4000000 in
set_option maxRecDepth 100000 in
theorem c_J7_fill_53178 {l : Launch} {D : va_G} {ad : Nat} {cy : Nat → ClassId} {ln : Nat} {f : zI} {x1 : Int32} {f' : zI} (hf : f_J7_fill_53178 ln f x1 = some f') : zMV l yJ7_fill_53178 (zW yJ7_fill_53178 cJ7_fill_53178 4 none) { frames := 0, cells := 0, slots := 0, locals := 0 } D cy [.ref ad, .int x1] (wdAI ad cy ln f) (wdAI ad cy ln f') := by
  unfold f_J7_fill_53178 at hf
  refine zEV (by decide) (Nat.le_of_ble_eq_true rfl) ?_
  intro p e s9 m9 below meth c A Q C0 hret ls hl hP hD
  have hl : lv_has ls 4 [(0, .ref ad), (1, .int x1)] := hl
  have hS : va_S A s9.heap s9.heap [] := va_S.rf
  obtain ⟨hx, hb, hml, hown, hts⟩ := id C0.1
  refine lv_iconst (v := 0) hx hb dJ7_fill_53178_0 (by decide) ?_
  refine lv_istore_n (lv' := [(2, .int 0), (0, .ref ad), (1, .int x1)]) hx hb dJ7_fill_53178_1 rfl hl (by decide) rfl (fun ls hl => ?_)
  refine lv_aload_n hx hb dJ7_fill_53178_2 rfl (lv_at hl 1 rfl) ?_
  refine zalen C0 hP 0 wdAI_0 dJ7_fill_53178_3 ?_
  refine lv_istore_n (lv' := [(3, .int (Int32.ofNat ln)), (2, .int 0), (0, .ref ad), (1, .int x1)]) hx hb dJ7_fill_53178_4 rfl hl (by decide) rfl (fun ls hl => ?_)
  obtain ⟨f5, hL4, hf⟩ := zq_b1_s hf
  refine w_J7_fill_53178_L5 C0 (fun H locs ls hP hD hS hl => ?_) 100 0 f hL4 _ _ _ hP hD hS (lv_sub hl [2, 3, 1, 0] rfl)
  obtain rfl := Option.some.inj hf
  exact hret _ _ _ _ dJ7_fill_53178_20 hP hD hS

def f_X1_begin (s : zS) (x1 : Int32) (x2 : Int32) : Option (zS) :=
  zq_b1 (f_J7_fill_53178 60 (s 0) 0) (fun m2 =>
  zq_lt (va_up s 0 m2) (fun s3 =>
  zq_lt (va_up s3 1 (fun _ => 1)) (fun s4 =>
  zq_lt (va_up s4 2 (fun _ => x1)) (fun s5 =>
  zq_lt (va_up s5 3 (fun _ => x2)) (fun s6 =>
  some s6)))))
set_option maxHeartbeats 4000000 in
set_option maxRecDepth 100000 in
theorem c_X1_begin {l : Launch} {D : va_G} {ad : Nat → Nat} {cy : Nat → ClassId} {s : zS} {x1 : Int32} {x2 : Int32} {s' : zS} (hf : f_X1_begin s x1 x2 = some s') : zMV l yX1_begin (zW yX1_begin cX1_begin 3 none) { frames := 1, cells := 0, slots := 0, locals := 23 } D cy [.ref (ad 0), .int x1, .int x2] (wdS ad cy s) (wdS ad cy s') := by
  unfold f_X1_begin at hf
  refine zEV (by decide) (Nat.le_of_ble_eq_true rfl) ?_
  intro p e s9 m9 below meth c A Q C0 hret ls hl hP hD
  have hl : lv_has ls 3 [(0, .ref (ad 0)), (1, .int x1), (2, .int x2)] := hl
  have hS : va_S A s9.heap s9.heap [] := va_S.rf
  obtain ⟨hx, hb, hml, hown, hts⟩ := id C0.1
  refine lv_aload_n hx hb dX1_begin_0 rfl (lv_at hl 0 rfl) ?_
  refine gf_X1_9 C0 hP 0 wdS_0 rfl dX1_begin_1 ?_
  refine lv_iconst (v := 0) hx hb dX1_begin_4 (by decide) ?_
  obtain ⟨m2, hc1, hf⟩ := zq_b1_s hf
  obtain ⟨s3, es3, hf⟩ := zq_lt_s hf
  refine zSV (ws' := (wdS ad cy s3)) (rest := []) C0 (fun _ h => h) (by rw [es3]; exact fS_c) (c_J7_fill_53178 (ad := ad 1) (ln := 60) hc1) hP hD hS my_J7_fill_53178 kl_X1_26 ⟨rfl, rfl⟩ ⟨Nat.le_of_ble_eq_true rfl, Nat.le_of_ble_eq_true rfl⟩ rfl hl.1 rfl (Nat.le_of_ble_eq_true rfl) dX1_begin_5 ⟨Nat.zero_le _, Nat.zero_le _⟩ (fun H locs hP hD hS => ?_)
  refine lv_aload_n hx hb dX1_begin_8 rfl (lv_at hl 0 rfl) ?_
  refine lv_iconst (v := 1) hx hb dX1_begin_9 (by decide) ?_
  obtain ⟨s4, es4, hf⟩ := zq_lt_s hf
  refine pf_X1_15 (ws' := (wdS ad cy s4)) C0 hP hD hS 0 wdS_0 (by decide) (Nat.le_of_ble_eq_true rfl) (by rw [es4]; rfl) dX1_begin_10 (fun H locs hP hD hS => ?_)
  refine lv_aload_n hx hb dX1_begin_13 rfl (lv_at hl 0 rfl) ?_
  refine lv_iload_n hx hb dX1_begin_14 rfl (lv_at hl 1 rfl) ?_
  obtain ⟨s5, es5, hf⟩ := zq_lt_s hf
  refine pf_X1_19 (ws' := (wdS ad cy s5)) C0 hP hD hS 0 wdS_0 (Nat.le_of_ble_eq_true rfl) (by rw [es5]; rfl) dX1_begin_15 (fun H locs hP hD hS => ?_)
  refine lv_aload_n hx hb dX1_begin_18 rfl (lv_at hl 0 rfl) ?_
  refine lv_iload_n hx hb dX1_begin_19 rfl (lv_at hl 2 rfl) ?_
  obtain ⟨s6, es6, hf⟩ := zq_lt_s hf
  refine pf_X1_23 (ws' := (wdS ad cy s6)) C0 hP hD hS 0 wdS_0 (Nat.le_of_ble_eq_true rfl) (by rw [es6]; rfl) dX1_begin_20 (fun H locs hP hD hS => ?_)
  obtain rfl := Option.some.inj hf
  exact hret _ _ _ _ dX1_begin_23 hP hD hS

def f_X1_holds (s : zS) (x1 : Int32) (x2 : Int32) : Option (Int32) :=
  if x1 < 0 then (
  some 0) else (
  if (s 3 0) < x1 then (
  some 0) else (
  if ((s 3 0) - x1) < x2 then (
  some 0) else (
  some 1)))
set_option maxHeartbeats 4000000 in
set_option maxRecDepth 100000 in
theorem c_X1_holds {l : Launch} {D : va_G} {ad : Nat → Nat} {cy : Nat → ClassId} {s : zS} {x1 : Int32} {x2 : Int32} {r0 : Int32} (hf : f_X1_holds s x1 x2 = some r0) : zMI l yX1_holds (zW yX1_holds cX1_holds 3 (some .boolean)) { frames := 0, cells := 0, slots := 0, locals := 0 } D cy [.ref (ad 0), .int x1, .int x2] (wdS ad cy s) r0 (wdS ad cy s) := by
  unfold f_X1_holds at hf
  refine zEI (ty := .boolean) (by decide) (Nat.le_of_ble_eq_true rfl) ?_
  intro p e s9 m9 below meth c A Q C0 hret ls hl hP hD
  have hl : lv_has ls 3 [(0, .ref (ad 0)), (1, .int x1), (2, .int x2)] := hl
  have hS : va_S A s9.heap s9.heap [] := va_S.rf
  obtain ⟨hx, hb, hml, hown, hts⟩ := id C0.1
  refine lv_iload_n hx hb dX1_holds_0 rfl (lv_at hl 1 rfl) ?_
  refine lv_if_lt (tgt := 26) hx hb dX1_holds_1 (by decide) (fun c1 => ?_) (fun c1 => ?_)
  · have hf := it_t c1 hf
    refine lv_iconst (v := 0) hx hb dX1_holds_26 (by decide) ?_
    obtain rfl := Option.some.inj hf
    exact hret _ _ _ _ rfl dX1_holds_27 hP hD hS
  · have hf := it_f c1 hf
    refine lv_iload_n hx hb dX1_holds_4 rfl (lv_at hl 1 rfl) ?_
    refine lv_aload_n hx hb dX1_holds_5 rfl (lv_at hl 0 rfl) ?_
    refine gf_X1_23 C0 hP 0 wdS_0 rfl dX1_holds_6 ?_
    refine lv_icmp_gt (tgt := 26) hx hb dX1_holds_9 (by decide) (fun c2 => ?_) (fun c2 => ?_)
    · have hf := it_t c2 hf
      refine lv_iconst (v := 0) hx hb dX1_holds_26 (by decide) ?_
      obtain rfl := Option.some.inj hf
      exact hret _ _ _ _ rfl dX1_holds_27 hP hD hS
    · have hf := it_f c2 hf
      refine lv_iload_n hx hb dX1_holds_12 rfl (lv_at hl 2 rfl) ?_
      refine lv_aload_n hx hb dX1_holds_13 rfl (lv_at hl 0 rfl) ?_
      refine gf_X1_23 C0 hP 0 wdS_0 rfl dX1_holds_14 ?_
      refine lv_iload_n hx hb dX1_holds_17 rfl (lv_at hl 1 rfl) ?_
      refine lv_isub hx hb dX1_holds_18 ?_
      refine lv_icmp_gt (tgt := 26) hx hb dX1_holds_19 (by decide) (fun c3 => ?_) (fun c3 => ?_)
      · have hf := it_t c3 hf
        refine lv_iconst (v := 0) hx hb dX1_holds_26 (by decide) ?_
        obtain rfl := Option.some.inj hf
        exact hret _ _ _ _ rfl dX1_holds_27 hP hD hS
      · have hf := it_f c3 hf
        refine lv_iconst (v := 1) hx hb dX1_holds_22 (by decide) ?_
        refine lv_goto (tgt := 27) hx hb dX1_holds_23 (by decide) ?_
        obtain rfl := Option.some.inj hf
        exact hret _ _ _ _ rfl dX1_holds_27 hP hD hS

def f_X1_faultOfCells (s : zS) (x1 : Int32) (x2 : Int32) (x3 : Int32) : Option (Int32) :=
  if (s 1 0) = 0 then (
  if (s 1 0) = 0 then (
  some 1) else (
  if 0 ≤ x3 then (
  zq_b1 (f_X1_holds s x2 x3) (fun r5 =>
  if r5 = 0 then (
  some 3) else (
  some 0))) else (
  some 4))) else (
  if (s 2 0) = x1 then (
  if (s 1 0) = 0 then (
  some 1) else (
  if 0 ≤ x3 then (
  zq_b1 (f_X1_holds s x2 x3) (fun r11 =>
  if r11 = 0 then (
  some 3) else (
  some 0))) else (
  some 4))) else (
  some 2))
set_option maxHeartbeats 4000000 in
set_option maxRecDepth 100000 in
theorem c_X1_faultOfCells {l : Launch} {D : va_G} {ad : Nat → Nat} {cy : Nat → ClassId} {s : zS} {x1 : Int32} {x2 : Int32} {x3 : Int32} {r0 : Int32} (hf : f_X1_faultOfCells s x1 x2 x3 = some r0) : zMI l yX1_faultOfCells (zW yX1_faultOfCells cX1_faultOfCells 4 (some .int)) { frames := 1, cells := 0, slots := 0, locals := 22 } D cy [.ref (ad 0), .int x1, .int x2, .int x3] (wdS ad cy s) r0 (wdS ad cy s) := by
  unfold f_X1_faultOfCells at hf
  refine zEI (ty := .int) (by decide) (Nat.le_of_ble_eq_true rfl) ?_
  intro p e s9 m9 below meth c A Q C0 hret ls hl hP hD
  have hl : lv_has ls 4 [(0, .ref (ad 0)), (1, .int x1), (2, .int x2), (3, .int x3)] := hl
  have hS : va_S A s9.heap s9.heap [] := va_S.rf
  obtain ⟨hx, hb, hml, hown, hts⟩ := id C0.1
  refine lv_aload_n hx hb dX1_faultOfCells_0 rfl (lv_at hl 0 rfl) ?_
  refine gf_X1_15 C0 hP 0 wdS_0 rfl dX1_faultOfCells_1 ?_
  refine lv_if_eq (tgt := 17) hx hb dX1_faultOfCells_4 (by decide) (fun c1 => ?_) (fun c1 => ?_)
  · have hf := it_t c1 hf
    refine lv_aload_n hx hb dX1_faultOfCells_17 rfl (lv_at hl 0 rfl) ?_
    refine gf_X1_15 C0 hP 0 wdS_0 rfl dX1_faultOfCells_18 ?_
    refine lv_if_ne (tgt := 26) hx hb dX1_faultOfCells_21 (by decide) (fun c2 => ?_) (fun c2 => ?_)
    · have hf := it_f c2 hf
      refine lv_iload_n hx hb dX1_faultOfCells_26 rfl (lv_at hl 3 rfl) ?_
      refine lv_if_ge (tgt := 32) hx hb dX1_faultOfCells_27 (by decide) (fun c3 => ?_) (fun c3 => ?_)
      · have hf := it_t c3 hf
        refine lv_aload_n hx hb dX1_faultOfCells_32 rfl (lv_at hl 0 rfl) ?_
        refine lv_iload_n hx hb dX1_faultOfCells_33 rfl (lv_at hl 2 rfl) ?_
        refine lv_iload_n hx hb dX1_faultOfCells_34 rfl (lv_at hl 3 rfl) ?_
        obtain ⟨r5, hc4, hf⟩ := zq_b1_s hf
        refine zVI (ws' := (wdS ad cy s)) (rest := []) C0 (fun _ h => h) zF.id (c_X1_holds hc4) hP hD hS my_X1_holds kl_X1_32 ⟨rfl, rfl⟩ ⟨Nat.le_of_ble_eq_true rfl, Nat.le_of_ble_eq_true rfl⟩ (q0 := 0) (ci := 1) rfl wdS_0 rfl hl.1 rfl (Nat.le_of_ble_eq_true rfl) dX1_faultOfCells_35 ⟨Nat.zero_le _, Nat.zero_le _⟩ (fun H locs hP hD hS => ?_)
        refine lv_if_eq (tgt := 45) hx hb dX1_faultOfCells_38 (by decide) (fun c6 => ?_) (fun c6 => ?_)
        · have hf := it_t c6 hf
          refine lv_iconst (v := 3) hx hb dX1_faultOfCells_45 (by decide) ?_
          obtain rfl := Option.some.inj hf
          exact hret _ _ _ _ rfl dX1_faultOfCells_46 hP hD hS
        · have hf := it_f c6 hf
          refine lv_iconst (v := 0) hx hb dX1_faultOfCells_41 (by decide) ?_
          refine lv_goto (tgt := 46) hx hb dX1_faultOfCells_42 (by decide) ?_
          obtain rfl := Option.some.inj hf
          exact hret _ _ _ _ rfl dX1_faultOfCells_46 hP hD hS
      · have hf := it_f c3 hf
        refine lv_iconst (v := 4) hx hb dX1_faultOfCells_30 (by decide) ?_
        obtain rfl := Option.some.inj hf
        exact hret _ _ _ _ rfl dX1_faultOfCells_31 hP hD hS
    · have hf := it_t c2 hf
      refine lv_iconst (v := 1) hx hb dX1_faultOfCells_24 (by decide) ?_
      obtain rfl := Option.some.inj hf
      exact hret _ _ _ _ rfl dX1_faultOfCells_25 hP hD hS
  · have hf := it_f c1 hf
    refine lv_aload_n hx hb dX1_faultOfCells_7 rfl (lv_at hl 0 rfl) ?_
    refine gf_X1_19 C0 hP 0 wdS_0 rfl dX1_faultOfCells_8 ?_
    refine lv_iload_n hx hb dX1_faultOfCells_11 rfl (lv_at hl 1 rfl) ?_
    refine lv_icmp_eq (tgt := 17) hx hb dX1_faultOfCells_12 (by decide) (fun c7 => ?_) (fun c7 => ?_)
    · have hf := it_t c7 hf
      refine lv_aload_n hx hb dX1_faultOfCells_17 rfl (lv_at hl 0 rfl) ?_
      refine gf_X1_15 C0 hP 0 wdS_0 rfl dX1_faultOfCells_18 ?_
      refine lv_if_ne (tgt := 26) hx hb dX1_faultOfCells_21 (by decide) (fun c8 => ?_) (fun c8 => ?_)
      · have hf := it_f c8 hf
        refine lv_iload_n hx hb dX1_faultOfCells_26 rfl (lv_at hl 3 rfl) ?_
        refine lv_if_ge (tgt := 32) hx hb dX1_faultOfCells_27 (by decide) (fun c9 => ?_) (fun c9 => ?_)
        · have hf := it_t c9 hf
          refine lv_aload_n hx hb dX1_faultOfCells_32 rfl (lv_at hl 0 rfl) ?_
          refine lv_iload_n hx hb dX1_faultOfCells_33 rfl (lv_at hl 2 rfl) ?_
          refine lv_iload_n hx hb dX1_faultOfCells_34 rfl (lv_at hl 3 rfl) ?_
          obtain ⟨r11, hc10, hf⟩ := zq_b1_s hf
          refine zVI (ws' := (wdS ad cy s)) (rest := []) C0 (fun _ h => h) zF.id (c_X1_holds hc10) hP hD hS my_X1_holds kl_X1_32 ⟨rfl, rfl⟩ ⟨Nat.le_of_ble_eq_true rfl, Nat.le_of_ble_eq_true rfl⟩ (q0 := 0) (ci := 1) rfl wdS_0 rfl hl.1 rfl (Nat.le_of_ble_eq_true rfl) dX1_faultOfCells_35 ⟨Nat.zero_le _, Nat.zero_le _⟩ (fun H locs hP hD hS => ?_)
          refine lv_if_eq (tgt := 45) hx hb dX1_faultOfCells_38 (by decide) (fun c12 => ?_) (fun c12 => ?_)
          · have hf := it_t c12 hf
            refine lv_iconst (v := 3) hx hb dX1_faultOfCells_45 (by decide) ?_
            obtain rfl := Option.some.inj hf
            exact hret _ _ _ _ rfl dX1_faultOfCells_46 hP hD hS
          · have hf := it_f c12 hf
            refine lv_iconst (v := 0) hx hb dX1_faultOfCells_41 (by decide) ?_
            refine lv_goto (tgt := 46) hx hb dX1_faultOfCells_42 (by decide) ?_
            obtain rfl := Option.some.inj hf
            exact hret _ _ _ _ rfl dX1_faultOfCells_46 hP hD hS
        · have hf := it_f c9 hf
          refine lv_iconst (v := 4) hx hb dX1_faultOfCells_30 (by decide) ?_
          obtain rfl := Option.some.inj hf
          exact hret _ _ _ _ rfl dX1_faultOfCells_31 hP hD hS
      · have hf := it_t c8 hf
        refine lv_iconst (v := 1) hx hb dX1_faultOfCells_24 (by decide) ?_
        obtain rfl := Option.some.inj hf
        exact hret _ _ _ _ rfl dX1_faultOfCells_25 hP hD hS
    · have hf := it_f c7 hf
      refine lv_iconst (v := 2) hx hb dX1_faultOfCells_15 (by decide) ?_
      obtain rfl := Option.some.inj hf
      exact hret _ _ _ _ rfl dX1_faultOfCells_16 hP hD hS

def f_X1_cutToLane (s : zS) (x1 : Int32) : Option (Int32) :=
  if (s 2 0) = 0 then (
  some ((Int32.toInt8 x1).toInt32)) else (
  if (s 2 0) = 1 then (
  some ((Int32.toInt16 x1).toInt32)) else (
  some x1))
set_option maxHeartbeats 4000000 in
set_option maxRecDepth 100000 in
theorem c_X1_cutToLane {l : Launch} {D : va_G} {ad : Nat → Nat} {cy : Nat → ClassId} {s : zS} {x1 : Int32} {r0 : Int32} (hf : f_X1_cutToLane s x1 = some r0) : zMI l yX1_cutToLane (zW yX1_cutToLane cX1_cutToLane 2 (some .int)) { frames := 0, cells := 0, slots := 0, locals := 0 } D cy [.ref (ad 0), .int x1] (wdS ad cy s) r0 (wdS ad cy s) := by
  unfold f_X1_cutToLane at hf
  refine zEI (ty := .int) (by decide) (Nat.le_of_ble_eq_true rfl) ?_
  intro p e s9 m9 below meth c A Q C0 hret ls hl hP hD
  have hl : lv_has ls 2 [(0, .ref (ad 0)), (1, .int x1)] := hl
  have hS : va_S A s9.heap s9.heap [] := va_S.rf
  obtain ⟨hx, hb, hml, hown, hts⟩ := id C0.1
  refine lv_aload_n hx hb dX1_cutToLane_0 rfl (lv_at hl 0 rfl) ?_
  refine gf_X1_19 C0 hP 0 wdS_0 rfl dX1_cutToLane_1 ?_
  refine lv_if_ne (tgt := 10) hx hb dX1_cutToLane_4 (by decide) (fun c1 => ?_) (fun c1 => ?_)
  · have hf := it_f c1 hf
    refine lv_aload_n hx hb dX1_cutToLane_10 rfl (lv_at hl 0 rfl) ?_
    refine gf_X1_19 C0 hP 0 wdS_0 rfl dX1_cutToLane_11 ?_
    refine lv_iconst (v := 1) hx hb dX1_cutToLane_14 (by decide) ?_
    refine lv_icmp_ne (tgt := 23) hx hb dX1_cutToLane_15 (by decide) (fun c2 => ?_) (fun c2 => ?_)
    · have hf := it_f c2 hf
      refine lv_iload_n hx hb dX1_cutToLane_23 rfl (lv_at hl 1 rfl) ?_
      obtain rfl := Option.some.inj hf
      exact hret _ _ _ _ rfl dX1_cutToLane_24 hP hD hS
    · have hf := it_t c2 hf
      refine lv_iload_n hx hb dX1_cutToLane_18 rfl (lv_at hl 1 rfl) ?_
      refine lv_i2s hx hb dX1_cutToLane_19 rfl ?_
      refine lv_goto (tgt := 24) hx hb dX1_cutToLane_20 (by decide) ?_
      obtain rfl := Option.some.inj hf
      exact hret _ _ _ _ rfl dX1_cutToLane_24 hP hD hS
  · have hf := it_t c1 hf
    refine lv_iload_n hx hb dX1_cutToLane_7 rfl (lv_at hl 1 rfl) ?_
    refine lv_i2b hx hb dX1_cutToLane_8 rfl ?_
    obtain rfl := Option.some.inj hf
    exact hret _ _ _ _ rfl dX1_cutToLane_9 hP hD hS

def f_X2_stands (n : zS)  : Option (Int32) :=
  if (n 8 0) ≤ 0 then (
  some 0) else (
  some 1)
set_option maxHeartbeats 4000000 in
set_option maxRecDepth 100000 in
theorem c_X2_stands {l : Launch} {D : va_G} {ad : Nat → Nat} {cy : Nat → ClassId} {n : zS}  {r0 : Int32} (hf : f_X2_stands n = some r0) : zMI l yX2_stands (zW yX2_stands cX2_stands 1 (some .boolean)) { frames := 0, cells := 0, slots := 0, locals := 0 } D cy [.ref (ad 0)] (wdW ad cy n) r0 (wdW ad cy n) := by
  unfold f_X2_stands at hf
  refine zEI (ty := .boolean) (by decide) (Nat.le_of_ble_eq_true rfl) ?_
  intro p e s9 m9 below meth c A Q C0 hret ls hl hP hD
  have hl : lv_has ls 1 [(0, .ref (ad 0))] := hl
  have hS : va_S A s9.heap s9.heap [] := va_S.rf
  obtain ⟨hx, hb, hml, hown, hts⟩ := id C0.1
  refine lv_aload_n hx hb dX2_stands_0 rfl (lv_at hl 0 rfl) ?_
  refine gf_X2_37 C0 hP 0 wdW_0 rfl dX2_stands_1 ?_
  refine lv_if_le (tgt := 11) hx hb dX2_stands_4 (by decide) (fun c1 => ?_) (fun c1 => ?_)
  · have hf := it_t c1 hf
    refine lv_iconst (v := 0) hx hb dX2_stands_11 (by decide) ?_
    obtain rfl := Option.some.inj hf
    exact hret _ _ _ _ rfl dX2_stands_12 hP hD hS
  · have hf := it_f c1 hf
    refine lv_iconst (v := 1) hx hb dX2_stands_7 (by decide) ?_
    refine lv_goto (tgt := 12) hx hb dX2_stands_8 (by decide) ?_
    obtain rfl := Option.some.inj hf
    exact hret _ _ _ _ rfl dX2_stands_12 hP hD hS

def f_X2_hasModule (n : zS) (x1 : Int32) : Option (Int32) :=
  if x1 < 0 then (
  some 0) else (
  if (n 8 0) ≤ x1 then (
  some 0) else (
  some 1))
set_option maxHeartbeats 4000000 in
set_option maxRecDepth 100000 in
theorem c_X2_hasModule {l : Launch} {D : va_G} {ad : Nat → Nat} {cy : Nat → ClassId} {n : zS} {x1 : Int32} {r0 : Int32} (hf : f_X2_hasModule n x1 = some r0) : zMI l yX2_hasModule (zW yX2_hasModule cX2_hasModule 2 (some .boolean)) { frames := 0, cells := 0, slots := 0, locals := 0 } D cy [.ref (ad 0), .int x1] (wdW ad cy n) r0 (wdW ad cy n) := by
  unfold f_X2_hasModule at hf
  refine zEI (ty := .boolean) (by decide) (Nat.le_of_ble_eq_true rfl) ?_
  intro p e s9 m9 below meth c A Q C0 hret ls hl hP hD
  have hl : lv_has ls 2 [(0, .ref (ad 0)), (1, .int x1)] := hl
  have hS : va_S A s9.heap s9.heap [] := va_S.rf
  obtain ⟨hx, hb, hml, hown, hts⟩ := id C0.1
  refine lv_iload_n hx hb dX2_hasModule_0 rfl (lv_at hl 1 rfl) ?_
  refine lv_if_lt (tgt := 16) hx hb dX2_hasModule_1 (by decide) (fun c1 => ?_) (fun c1 => ?_)
  · have hf := it_t c1 hf
    refine lv_iconst (v := 0) hx hb dX2_hasModule_16 (by decide) ?_
    obtain rfl := Option.some.inj hf
    exact hret _ _ _ _ rfl dX2_hasModule_17 hP hD hS
  · have hf := it_f c1 hf
    refine lv_iload_n hx hb dX2_hasModule_4 rfl (lv_at hl 1 rfl) ?_
    refine lv_aload_n hx hb dX2_hasModule_5 rfl (lv_at hl 0 rfl) ?_
    refine gf_X2_37 C0 hP 0 wdW_0 rfl dX2_hasModule_6 ?_
    refine lv_icmp_ge (tgt := 16) hx hb dX2_hasModule_9 (by decide) (fun c2 => ?_) (fun c2 => ?_)
    · have hf := it_t c2 hf
      refine lv_iconst (v := 0) hx hb dX2_hasModule_16 (by decide) ?_
      obtain rfl := Option.some.inj hf
      exact hret _ _ _ _ rfl dX2_hasModule_17 hP hD hS
    · have hf := it_f c2 hf
      refine lv_iconst (v := 1) hx hb dX2_hasModule_12 (by decide) ?_
      refine lv_goto (tgt := 17) hx hb dX2_hasModule_13 (by decide) ?_
      obtain rfl := Option.some.inj hf
      exact hret _ _ _ _ rfl dX2_hasModule_17 hP hD hS

def f_X2_hasLamp (n : zS) (x1 : Int32) : Option (Int32) :=
  if x1 < 0 then (
  some 0) else (
  if (n 9 0) ≤ x1 then (
  some 0) else (
  some 1))
set_option maxHeartbeats 4000000 in
set_option maxRecDepth 100000 in
theorem c_X2_hasLamp {l : Launch} {D : va_G} {ad : Nat → Nat} {cy : Nat → ClassId} {n : zS} {x1 : Int32} {r0 : Int32} (hf : f_X2_hasLamp n x1 = some r0) : zMI l yX2_hasLamp (zW yX2_hasLamp cX2_hasLamp 2 (some .boolean)) { frames := 0, cells := 0, slots := 0, locals := 0 } D cy [.ref (ad 0), .int x1] (wdW ad cy n) r0 (wdW ad cy n) := by
  unfold f_X2_hasLamp at hf
  refine zEI (ty := .boolean) (by decide) (Nat.le_of_ble_eq_true rfl) ?_
  intro p e s9 m9 below meth c A Q C0 hret ls hl hP hD
  have hl : lv_has ls 2 [(0, .ref (ad 0)), (1, .int x1)] := hl
  have hS : va_S A s9.heap s9.heap [] := va_S.rf
  obtain ⟨hx, hb, hml, hown, hts⟩ := id C0.1
  refine lv_iload_n hx hb dX2_hasLamp_0 rfl (lv_at hl 1 rfl) ?_
  refine lv_if_lt (tgt := 16) hx hb dX2_hasLamp_1 (by decide) (fun c1 => ?_) (fun c1 => ?_)
  · have hf := it_t c1 hf
    refine lv_iconst (v := 0) hx hb dX2_hasLamp_16 (by decide) ?_
    obtain rfl := Option.some.inj hf
    exact hret _ _ _ _ rfl dX2_hasLamp_17 hP hD hS
  · have hf := it_f c1 hf
    refine lv_iload_n hx hb dX2_hasLamp_4 rfl (lv_at hl 1 rfl) ?_
    refine lv_aload_n hx hb dX2_hasLamp_5 rfl (lv_at hl 0 rfl) ?_
    refine gf_X2_41 C0 hP 0 wdW_0 rfl dX2_hasLamp_6 ?_
    refine lv_icmp_ge (tgt := 16) hx hb dX2_hasLamp_9 (by decide) (fun c2 => ?_) (fun c2 => ?_)
    · have hf := it_t c2 hf
      refine lv_iconst (v := 0) hx hb dX2_hasLamp_16 (by decide) ?_
      obtain rfl := Option.some.inj hf
      exact hret _ _ _ _ rfl dX2_hasLamp_17 hP hD hS
    · have hf := it_f c2 hf
      refine lv_iconst (v := 1) hx hb dX2_hasLamp_12 (by decide) ?_
      refine lv_goto (tgt := 17) hx hb dX2_hasLamp_13 (by decide) ?_
      obtain rfl := Option.some.inj hf
      exact hret _ _ _ _ rfl dX2_hasLamp_17 hP hD hS

def f_X2_becomeLike (n : zS) (t : zS)  : Option (zS) :=
  zq_cp .int (t 0) 4 4 0 0 4 (zq_lt (va_up n 0 (va_cpy (t 0) (n 0) (Int32.toNatClampNeg 0) (Int32.toNatClampNeg 0) (Int32.toNatClampNeg 4))) (fun n2 =>
  zq_cp .int (t 1) 4 4 0 0 4 (zq_lt (va_up n2 1 (va_cpy (t 1) (n2 1) (Int32.toNatClampNeg 0) (Int32.toNatClampNeg 0) (Int32.toNatClampNeg 4))) (fun n4 =>
  zq_cp .int (t 2) 4 4 0 0 4 (zq_lt (va_up n4 2 (va_cpy (t 2) (n4 2) (Int32.toNatClampNeg 0) (Int32.toNatClampNeg 0) (Int32.toNatClampNeg 4))) (fun n6 =>
  zq_cp .boolean (t 3) 4 4 0 0 4 (zq_lt (va_up n6 3 (va_cpy (t 3) (n6 3) (Int32.toNatClampNeg 0) (Int32.toNatClampNeg 0) (Int32.toNatClampNeg 4))) (fun n8 =>
  zq_cp .int (t 4) 16 16 0 0 16 (zq_lt (va_up n8 4 (va_cpy (t 4) (n8 4) (Int32.toNatClampNeg 0) (Int32.toNatClampNeg 0) (Int32.toNatClampNeg 16))) (fun n10 =>
  zq_cp .int (t 5) 16 16 0 0 16 (zq_lt (va_up n10 5 (va_cpy (t 5) (n10 5) (Int32.toNatClampNeg 0) (Int32.toNatClampNeg 0) (Int32.toNatClampNeg 16))) (fun n12 =>
  zq_cp .int (t 6) 15 15 0 0 15 (zq_lt (va_up n12 6 (va_cpy (t 6) (n12 6) (Int32.toNatClampNeg 0) (Int32.toNatClampNeg 0) (Int32.toNatClampNeg 15))) (fun n14 =>
  zq_cp .int (t 7) 15 15 0 0 15 (zq_lt (va_up n14 7 (va_cpy (t 7) (n14 7) (Int32.toNatClampNeg 0) (Int32.toNatClampNeg 0) (Int32.toNatClampNeg 15))) (fun n16 =>
  zq_lt (va_up n16 8 (fun _ => (t 8 0))) (fun n17 =>
  zq_lt (va_up n17 9 (fun _ => (t 9 0))) (fun n18 =>
  zq_lt (va_up n18 10 (fun _ => (t 10 0))) (fun n19 =>
  some n19)))))))))))))))))))
set_option maxHeartbeats 4000000 in
set_option maxRecDepth 100000 in
theorem c_X2_becomeLike {l : Launch} {D : va_G} {ad : Nat → Nat} {cy : Nat → ClassId} {a2 : Nat → Nat} {n : zS} {t : zS}  {n' : zS} (hf : f_X2_becomeLike n t = some n') : zMV l yX2_becomeLike (zW yX2_becomeLike cX2_becomeLike 2 none) { frames := 1, cells := 0, slots := 0, locals := 48 } D cy [.ref (ad 0), .ref (a2 0)] (wdWW ad a2 cy n t) (wdWW ad a2 cy n' t) := by
  unfold f_X2_becomeLike at hf
  refine zEV (by decide) (Nat.le_of_ble_eq_true rfl) ?_
  intro p e s9 m9 below meth c A Q C0 hret ls hl hP hD
  have hl : lv_has ls 2 [(0, .ref (ad 0)), (1, .ref (a2 0))] := hl
  have hS : va_S A s9.heap s9.heap [] := va_S.rf
  obtain ⟨hx, hb, hml, hown, hts⟩ := id C0.1
  refine lv_aload_n hx hb dX2_becomeLike_0 rfl (lv_at hl 1 rfl) ?_
  refine gf_X2_9 C0 hP 9 wdWW_9 rfl dX2_becomeLike_1 ?_
  refine lv_iconst (v := 0) hx hb dX2_becomeLike_4 (by decide) ?_
  refine lv_aload_n hx hb dX2_becomeLike_5 rfl (lv_at hl 0 rfl) ?_
  refine gf_X2_9 C0 hP 0 wdWW_0 rfl dX2_becomeLike_6 ?_
  refine lv_iconst (v := 0) hx hb dX2_becomeLike_9 (by decide) ?_
  refine lv_iconst (v := 4) hx hb dX2_becomeLike_10 (by decide) ?_
  obtain ⟨h1, hf⟩ := zq_cp_s hf
  obtain ⟨n2, en2, hf⟩ := zq_lt_s hf
  refine zcpy (ws' := (wdWW ad a2 cy n2 t)) C0 hl.1 0 rfl rfl kl_X2_47 kn_ac ks_ac ki_J10 hP hD hS 10 1 wdWW_10 wdWW_1 h1 (Nat.le_of_ble_eq_true rfl) (Nat.le_of_ble_eq_true rfl) (by rw [en2]; rfl) dX2_becomeLike_11 (fun H locs hP hD hS => ?_)
  refine lv_aload_n hx hb dX2_becomeLike_14 rfl (lv_at hl 1 rfl) ?_
  refine gf_X2_15 C0 hP 9 wdWW_9 rfl dX2_becomeLike_15 ?_
  refine lv_iconst (v := 0) hx hb dX2_becomeLike_18 (by decide) ?_
  refine lv_aload_n hx hb dX2_becomeLike_19 rfl (lv_at hl 0 rfl) ?_
  refine gf_X2_15 C0 hP 0 wdWW_0 rfl dX2_becomeLike_20 ?_
  refine lv_iconst (v := 0) hx hb dX2_becomeLike_23 (by decide) ?_
  refine lv_iconst (v := 4) hx hb dX2_becomeLike_24 (by decide) ?_
  obtain ⟨h3, hf⟩ := zq_cp_s hf
  obtain ⟨n4, en4, hf⟩ := zq_lt_s hf
  refine zcpy (ws' := (wdWW ad a2 cy n4 t)) C0 hl.1 0 rfl rfl kl_X2_47 kn_ac ks_ac ki_J10 hP hD hS 11 2 wdWW_11 wdWW_2 h3 (Nat.le_of_ble_eq_true rfl) (Nat.le_of_ble_eq_true rfl) (by rw [en4]; rfl) dX2_becomeLike_25 (fun H locs hP hD hS => ?_)
  refine lv_aload_n hx hb dX2_becomeLike_28 rfl (lv_at hl 1 rfl) ?_
  refine gf_X2_18 C0 hP 9 wdWW_9 rfl dX2_becomeLike_29 ?_
  refine lv_iconst (v := 0) hx hb dX2_becomeLike_32 (by decide) ?_
  refine lv_aload_n hx hb dX2_becomeLike_33 rfl (lv_at hl 0 rfl) ?_
  refine gf_X2_18 C0 hP 0 wdWW_0 rfl dX2_becomeLike_34 ?_
  refine lv_iconst (v := 0) hx hb dX2_becomeLike_37 (by decide) ?_
  refine lv_iconst (v := 4) hx hb dX2_becomeLike_38 (by decide) ?_
  obtain ⟨h5, hf⟩ := zq_cp_s hf
  obtain ⟨n6, en6, hf⟩ := zq_lt_s hf
  refine zcpy (ws' := (wdWW ad a2 cy n6 t)) C0 hl.1 0 rfl rfl kl_X2_47 kn_ac ks_ac ki_J10 hP hD hS 12 3 wdWW_12 wdWW_3 h5 (Nat.le_of_ble_eq_true rfl) (Nat.le_of_ble_eq_true rfl) (by rw [en6]; rfl) dX2_becomeLike_39 (fun H locs hP hD hS => ?_)
  refine lv_aload_n hx hb dX2_becomeLike_42 rfl (lv_at hl 1 rfl) ?_
  refine gf_X2_21 C0 hP 9 wdWW_9 rfl dX2_becomeLike_43 ?_
  refine lv_iconst (v := 0) hx hb dX2_becomeLike_46 (by decide) ?_
  refine lv_aload_n hx hb dX2_becomeLike_47 rfl (lv_at hl 0 rfl) ?_
  refine gf_X2_21 C0 hP 0 wdWW_0 rfl dX2_becomeLike_48 ?_
  refine lv_iconst (v := 0) hx hb dX2_becomeLike_51 (by decide) ?_
  refine lv_iconst (v := 4) hx hb dX2_becomeLike_52 (by decide) ?_
  obtain ⟨h7, hf⟩ := zq_cp_s hf
  obtain ⟨n8, en8, hf⟩ := zq_lt_s hf
  refine zcpy (ws' := (wdWW ad a2 cy n8 t)) C0 hl.1 1 rfl rfl kl_X2_47 kn_ac ks_ac ki_J10 hP hD hS 13 4 wdWW_13 wdWW_4 h7 (Nat.le_of_ble_eq_true rfl) (Nat.le_of_ble_eq_true rfl) (by rw [en8]; rfl) dX2_becomeLike_53 (fun H locs hP hD hS => ?_)
  refine lv_aload_n hx hb dX2_becomeLike_56 rfl (lv_at hl 1 rfl) ?_
  refine gf_X2_25 C0 hP 9 wdWW_9 rfl dX2_becomeLike_57 ?_
  refine lv_iconst (v := 0) hx hb dX2_becomeLike_60 (by decide) ?_
  refine lv_aload_n hx hb dX2_becomeLike_61 rfl (lv_at hl 0 rfl) ?_
  refine gf_X2_25 C0 hP 0 wdWW_0 rfl dX2_becomeLike_62 ?_
  refine lv_iconst (v := 0) hx hb dX2_becomeLike_65 (by decide) ?_
  refine lv_bipush (v := 16) hx hb dX2_becomeLike_66 (by decide) ?_
  obtain ⟨h9, hf⟩ := zq_cp_s hf
  obtain ⟨n10, en10, hf⟩ := zq_lt_s hf
  refine zcpy (ws' := (wdWW ad a2 cy n10 t)) C0 hl.1 0 rfl rfl kl_X2_47 kn_ac ks_ac ki_J10 hP hD hS 14 5 wdWW_14 wdWW_5 h9 (Nat.le_of_ble_eq_true rfl) (Nat.le_of_ble_eq_true rfl) (by rw [en10]; rfl) dX2_becomeLike_68 (fun H locs hP hD hS => ?_)
  refine lv_aload_n hx hb dX2_becomeLike_71 rfl (lv_at hl 1 rfl) ?_
  refine gf_X2_28 C0 hP 9 wdWW_9 rfl dX2_becomeLike_72 ?_
  refine lv_iconst (v := 0) hx hb dX2_becomeLike_75 (by decide) ?_
  refine lv_aload_n hx hb dX2_becomeLike_76 rfl (lv_at hl 0 rfl) ?_
  refine gf_X2_28 C0 hP 0 wdWW_0 rfl dX2_becomeLike_77 ?_
  refine lv_iconst (v := 0) hx hb dX2_becomeLike_80 (by decide) ?_
  refine lv_bipush (v := 16) hx hb dX2_becomeLike_81 (by decide) ?_
  obtain ⟨h11, hf⟩ := zq_cp_s hf
  obtain ⟨n12, en12, hf⟩ := zq_lt_s hf
  refine zcpy (ws' := (wdWW ad a2 cy n12 t)) C0 hl.1 0 rfl rfl kl_X2_47 kn_ac ks_ac ki_J10 hP hD hS 15 6 wdWW_15 wdWW_6 h11 (Nat.le_of_ble_eq_true rfl) (Nat.le_of_ble_eq_true rfl) (by rw [en12]; rfl) dX2_becomeLike_83 (fun H locs hP hD hS => ?_)
  refine lv_aload_n hx hb dX2_becomeLike_86 rfl (lv_at hl 1 rfl) ?_
  refine gf_X2_31 C0 hP 9 wdWW_9 rfl dX2_becomeLike_87 ?_
  refine lv_iconst (v := 0) hx hb dX2_becomeLike_90 (by decide) ?_
  refine lv_aload_n hx hb dX2_becomeLike_91 rfl (lv_at hl 0 rfl) ?_
  refine gf_X2_31 C0 hP 0 wdWW_0 rfl dX2_becomeLike_92 ?_
  refine lv_iconst (v := 0) hx hb dX2_becomeLike_95 (by decide) ?_
  refine lv_bipush (v := 15) hx hb dX2_becomeLike_96 (by decide) ?_
  obtain ⟨h13, hf⟩ := zq_cp_s hf
  obtain ⟨n14, en14, hf⟩ := zq_lt_s hf
  refine zcpy (ws' := (wdWW ad a2 cy n14 t)) C0 hl.1 0 rfl rfl kl_X2_47 kn_ac ks_ac ki_J10 hP hD hS 16 7 wdWW_16 wdWW_7 h13 (Nat.le_of_ble_eq_true rfl) (Nat.le_of_ble_eq_true rfl) (by rw [en14]; rfl) dX2_becomeLike_98 (fun H locs hP hD hS => ?_)
  refine lv_aload_n hx hb dX2_becomeLike_101 rfl (lv_at hl 1 rfl) ?_
  refine gf_X2_34 C0 hP 9 wdWW_9 rfl dX2_becomeLike_102 ?_
  refine lv_iconst (v := 0) hx hb dX2_becomeLike_105 (by decide) ?_
  refine lv_aload_n hx hb dX2_becomeLike_106 rfl (lv_at hl 0 rfl) ?_
  refine gf_X2_34 C0 hP 0 wdWW_0 rfl dX2_becomeLike_107 ?_
  refine lv_iconst (v := 0) hx hb dX2_becomeLike_110 (by decide) ?_
  refine lv_bipush (v := 15) hx hb dX2_becomeLike_111 (by decide) ?_
  obtain ⟨h15, hf⟩ := zq_cp_s hf
  obtain ⟨n16, en16, hf⟩ := zq_lt_s hf
  refine zcpy (ws' := (wdWW ad a2 cy n16 t)) C0 hl.1 0 rfl rfl kl_X2_47 kn_ac ks_ac ki_J10 hP hD hS 17 8 wdWW_17 wdWW_8 h15 (Nat.le_of_ble_eq_true rfl) (Nat.le_of_ble_eq_true rfl) (by rw [en16]; rfl) dX2_becomeLike_113 (fun H locs hP hD hS => ?_)
  refine lv_aload_n hx hb dX2_becomeLike_116 rfl (lv_at hl 0 rfl) ?_
  refine lv_aload_n hx hb dX2_becomeLike_117 rfl (lv_at hl 1 rfl) ?_
  refine gf_X2_37 C0 hP 9 wdWW_9 rfl dX2_becomeLike_118 ?_
  obtain ⟨n17, en17, hf⟩ := zq_lt_s hf
  refine pf_X2_37 (ws' := (wdWW ad a2 cy n17 t)) C0 hP hD hS 0 wdWW_0 (Nat.le_of_ble_eq_true rfl) (by rw [en17]; rfl) dX2_becomeLike_121 (fun H locs hP hD hS => ?_)
  refine lv_aload_n hx hb dX2_becomeLike_124 rfl (lv_at hl 0 rfl) ?_
  refine lv_aload_n hx hb dX2_becomeLike_125 rfl (lv_at hl 1 rfl) ?_
  refine gf_X2_41 C0 hP 9 wdWW_9 rfl dX2_becomeLike_126 ?_
  obtain ⟨n18, en18, hf⟩ := zq_lt_s hf
  refine pf_X2_41 (ws' := (wdWW ad a2 cy n18 t)) C0 hP hD hS 0 wdWW_0 (Nat.le_of_ble_eq_true rfl) (by rw [en18]; rfl) dX2_becomeLike_129 (fun H locs hP hD hS => ?_)
  refine lv_aload_n hx hb dX2_becomeLike_132 rfl (lv_at hl 0 rfl) ?_
  refine lv_aload_n hx hb dX2_becomeLike_133 rfl (lv_at hl 1 rfl) ?_
  refine gf_X2_44 C0 hP 9 wdWW_9 rfl dX2_becomeLike_134 ?_
  obtain ⟨n19, en19, hf⟩ := zq_lt_s hf
  refine pf_X2_44 (ws' := (wdWW ad a2 cy n19 t)) C0 hP hD hS 0 wdWW_0 (Nat.le_of_ble_eq_true rfl) (by rw [en19]; rfl) dX2_becomeLike_137 (fun H locs hP hD hS => ?_)
  obtain rfl := Option.some.inj hf
  exact hret _ _ _ _ dX2_becomeLike_140 hP hD hS

def f_X3_isCut  (x0 : Int32) : Option (Int32) :=
  if x0 < 1 then (
  some 0) else (
  if 8 < x0 then (
  some 0) else (
  some 1))
set_option maxHeartbeats 4000000 in
set_option maxRecDepth 100000 in
theorem c_X3_isCut {l : Launch} {D : va_G} {cy : Nat → ClassId}   {x0 : Int32} {r0 : Int32} (hf : f_X3_isCut x0 = some r0) : zMI l yX3_isCut (zW yX3_isCut cX3_isCut 1 (some .boolean)) { frames := 0, cells := 0, slots := 0, locals := 0 } D cy [.int x0] [] r0 [] := by
  unfold f_X3_isCut at hf
  refine zEI (ty := .boolean) (by decide) (Nat.le_of_ble_eq_true rfl) ?_
  intro p e s9 m9 below meth c A Q C0 hret ls hl hP hD
  have hl : lv_has ls 1 [(0, .int x0)] := hl
  have hS : va_S A s9.heap s9.heap [] := va_S.rf
  obtain ⟨hx, hb, hml, hown, hts⟩ := id C0.1
  refine lv_iload_n hx hb dX3_isCut_0 rfl (lv_at hl 0 rfl) ?_
  refine lv_iconst (v := 1) hx hb dX3_isCut_1 (by decide) ?_
  refine lv_icmp_lt (tgt := 15) hx hb dX3_isCut_2 (by decide) (fun c1 => ?_) (fun c1 => ?_)
  · have hf := it_t c1 hf
    refine lv_iconst (v := 0) hx hb dX3_isCut_15 (by decide) ?_
    obtain rfl := Option.some.inj hf
    exact hret _ _ _ _ rfl dX3_isCut_16 hP hD hS
  · have hf := it_f c1 hf
    refine lv_iload_n hx hb dX3_isCut_5 rfl (lv_at hl 0 rfl) ?_
    refine lv_bipush (v := 8) hx hb dX3_isCut_6 (by decide) ?_
    refine lv_icmp_gt (tgt := 15) hx hb dX3_isCut_8 (by decide) (fun c2 => ?_) (fun c2 => ?_)
    · have hf := it_t c2 hf
      refine lv_iconst (v := 0) hx hb dX3_isCut_15 (by decide) ?_
      obtain rfl := Option.some.inj hf
      exact hret _ _ _ _ rfl dX3_isCut_16 hP hD hS
    · have hf := it_f c2 hf
      refine lv_iconst (v := 1) hx hb dX3_isCut_11 (by decide) ?_
      refine lv_goto (tgt := 16) hx hb dX3_isCut_12 (by decide) ?_
      obtain rfl := Option.some.inj hf
      exact hret _ _ _ _ rfl dX3_isCut_16 hP hD hS
