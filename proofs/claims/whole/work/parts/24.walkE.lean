def f_X3_day_L93 (s : zS4) (kA : Nat) (x3 : Int32) (x4 : Int32) : Nat → Int32 → Option ((Unit) ⊕ (Unit))
  | 0, _ => none
  | q9 + 1, x8 =>
  if (x3 + (2 * x4)) ≤ x8 then (
  some (Sum.inl ())) else (
  zq_rd (s kA 0) 60 x8 (fun v22 =>
  zq_rd (s kA 0) 60 (x8 + 1) (fun v24 =>
  zq_b1 (f_X3_isAct v22 v24) (fun r27 =>
  if r27 = 0 then (
  some (Sum.inr ())) else (
  f_X3_day_L93 s kA x3 x4 q9 (x8 + 2))))))
def f_X3_day (o : zS) (s : zS4) (n : zS) (t : zS) (x1 : Int32) (x2 : Int32) (x3 : Int32) (x4 : Int32) (x5 : Int32) : Option (Int32 × zS × zS) :=
  zq_lt (va_up o 6 (fun _ => 0)) (fun o1 =>
  zq_b1 (f_X3_isSheet x1) (fun r3 =>
  if r3 = 0 then (
  some ((-1), o1, t)) else (
  zq_b1 (f_X3_isLane x2) (fun r6 =>
  if r6 = 0 then (
  some ((-2), o1, t)) else (
  if x4 < 0 then (
  some ((-2), o1, t)) else (
  if 20 < x4 then (
  some ((-2), o1, t)) else (
  zq_b1 (f_X3_isOfDay x5) (fun r11 =>
  if r11 = 0 then (
  some ((-2), o1, t)) else (
  zq_b1 (f_X2_stands n) (fun r14 =>
  if r14 = 0 then (
  some ((-3), o1, t)) else (
  zq_in 4 x1 (
  zq_b1 (f_X1_faultOfCells (s (Int32.toNatClampNeg x1)) x2 x3 (2 * x4)) (fun r19 =>
  if r19 = 0 then (
  zq_s1_1 (f_X3_day_L93 s (Int32.toNatClampNeg x1) x3 x4 100 x3) (fun _u =>
  zq_b1 (f_X2_becomeLike t n) (fun t31 =>
  zq_b2 (f_X2_live t31 (s (Int32.toNatClampNeg x1)) x3 x4) (fun r33 t34 =>
  if x5 = 1 then (
  some (r33, o1, t34)) else (
  if r33 = (-9) then (
  zq_b1 (f_X3_endOfDay t34 x5) (fun r38 =>
  some (r38, o1, t34))) else (
  some (((-100) - r33), o1, t34)))))) (fun _u =>
  some ((-2), o1, t))) else (
  zq_b2 (f_X3_faulted o1 r19) (fun r40 o41 =>
  some (r40, o41, t))))))))))))))))
set_option maxHeartbeats 4000000 in
set_option maxRecDepth 100000 in
theorem w_X3_day_L93 {l : Launch} {p : Program} {e : Env} {s9 : State} {m9 : MethodId} {ag : Array Value} {below : List Frame} {meth : Method} {c : Code} {A : Nat → Prop} {Q : State → Prop} {D : va_G} {ad : Nat → Nat} {cy : Nat → ClassId} {o : zS} {s : zS4} {n : zS} {t : zS} {r : zS} {w : zJ} {kA : Nat} {x3 : Int32} {x4 : Int32} {x5 : Int32} (C0 : zCx p s9 m9 ag c cX3_day 9 RX3 D cy A) (hkA : kA < 4) {out : (Unit) ⊕ (Unit)} (e0 : ∀ (uu : Unit), out = Sum.inl uu → ∀ (H : Heap) (locs : List Loc) (ls : Array Slot), va_P D vwCl (wdX ad cy o s n t r w) H → va_D A (wdX ad cy o s n t r w) → va_S A s9.heap H locs → lv_has ls 9 [(0, .ref (ad 0)), (3, .int x3), (4, .int x4), (5, .int x5), (6, .ref (ad (2 + 2 * kA)))] → W p l e { frames := 6, cells := 0, slots := 0, locals := 134 } s9 m9 ag below meth c H locs 0 0 Q (F0 m9 137 ls [])) (e1 : ∀ (uu : Unit), out = Sum.inr uu → ∀ (H : Heap) (locs : List Loc) (ls : Array Slot), va_P D vwCl (wdX ad cy o s n t r w) H → va_D A (wdX ad cy o s n t r w) → va_S A s9.heap H locs → lv_has ls 9 [] → W p l e { frames := 6, cells := 0, slots := 0, locals := 134 } s9 m9 ag below meth c H locs 0 0 Q (F0 m9 128 ls [])) : ∀ (q9 : Nat) (x8 : Int32), f_X3_day_L93 s kA x3 x4 q9 x8 = some out → ∀ (H : Heap) (locs : List Loc) (ls : Array Slot), va_P D vwCl (wdX ad cy o s n t r w) H → va_D A (wdX ad cy o s n t r w) → va_S A s9.heap H locs → lv_has ls 9 [(0, .ref (ad 0)), (3, .int x3), (4, .int x4), (5, .int x5), (6, .ref (ad (2 + 2 * kA))), (8, .int x8)] → W p l e { frames := 6, cells := 0, slots := 0, locals := 134 } s9 m9 ag below meth c H locs 0 0 Q (F0 m9 93 ls []) := by
  obtain ⟨hx, hb, hml, hown, hts⟩ := id C0.1
  intro q9
  induction q9 with
  | zero =>
    intro x8 hf
    rw [f_X3_day_L93] at hf
    cases hf
  | succ q9 ih =>
    intro x8 hf H locs ls hP hD hS hl
    rw [f_X3_day_L93] at hf
    refine lv_iload hx hb dX3_day_93 (lv_at hl 5 rfl) ?_
    refine lv_iload_n hx hb dX3_day_95 rfl (lv_at hl 1 rfl) ?_
    refine lv_iconst (v := 2) hx hb dX3_day_96 (by decide) ?_
    refine lv_iload hx hb dX3_day_97 (lv_at hl 2 rfl) ?_
    refine lv_imul hx hb dX3_day_99 ?_
    refine lv_iadd hx hb dX3_day_100 ?_
    refine lv_icmp_ge (tgt := 137) hx hb dX3_day_101 (by decide) (fun c21 => ?_) (fun c21 => ?_)
    · have hf := it_t c21 hf
      exact e0 () (Option.some.inj hf).symm _ _ _ hP hD hS (lv_sub hl [0, 1, 2, 3, 4] rfl)
    · have hf := it_f c21 hf
      refine lv_aload hx hb dX3_day_104 (lv_at hl 4 rfl) ?_
      refine gf_X3_167 C0 hP (2 + 2 * kA) (wdX_sh hkA) rfl dX3_day_106 ?_
      refine lv_iload hx hb dX3_day_109 (lv_at hl 5 rfl) ?_
      obtain ⟨v22, ev22, h23, hf⟩ := zq_rd_s hf
      refine zia C0 hP (2 + 2 * kA + 1) (wdX_sc hkA) ev22 h23 dX3_day_111 ?_
      refine lv_aload hx hb dX3_day_112 (lv_at hl 4 rfl) ?_
      refine gf_X3_167 C0 hP (2 + 2 * kA) (wdX_sh hkA) rfl dX3_day_114 ?_
      refine lv_iload hx hb dX3_day_117 (lv_at hl 5 rfl) ?_
      refine lv_iconst (v := 1) hx hb dX3_day_119 (by decide) ?_
      refine lv_iadd hx hb dX3_day_120 ?_
      obtain ⟨v24, ev24, h25, hf⟩ := zq_rd_s hf
      refine zia C0 hP (2 + 2 * kA + 1) (wdX_sc hkA) ev24 h25 dX3_day_121 ?_
      obtain ⟨r27, hc26, hf⟩ := zq_b1_s hf
      refine zSI (ws' := (wdX ad cy o s n t r w)) (rest := []) C0 (fun _ h => h) zF.nil (c_X3_isAct hc26) hP hD hS my_X3_isAct kl_X3_176 ⟨rfl, rfl⟩ ⟨Nat.le_of_ble_eq_true rfl, Nat.le_of_ble_eq_true rfl⟩ rfl hl.1 rfl (Nat.le_of_ble_eq_true rfl) dX3_day_122 ⟨Nat.zero_le _, Nat.zero_le _⟩ (fun H locs hP hD hS => ?_)
      refine lv_if_ne (tgt := 131) hx hb dX3_day_125 (by decide) (fun c28 => ?_) (fun c28 => ?_)
      · have hf := it_f c28 hf
        refine lv_iinc (v := (x8 + 2)) (lv' := [(8, .int (x8 + 2)), (0, .ref (ad 0)), (3, .int x3), (4, .int x4), (5, .int x5), (6, .ref (ad (2 + 2 * kA)))]) hx hb dX3_day_131 hl (k := 5) rfl rfl (by decide) rfl (fun ls hl => ?_)
        refine lv_goto (tgt := 93) hx hb dX3_day_134 (by decide) ?_
        exact ih (x8 + 2) hf _ _ _ hP hD hS (lv_sub hl [1, 2, 3, 4, 5, 0] rfl)
      · have hf := it_t c28 hf
        exact e1 () (Option.some.inj hf).symm _ _ _ hP hD hS (lv_sub hl [] rfl)
set_option maxHeartbeats 4000000 in
set_option maxRecDepth 100000 in
theorem c_X3_day {l : Launch} {D : va_G} {ad : Nat → Nat} {cy : Nat → ClassId} {o : zS} {s : zS4} {n : zS} {t : zS} {r : zS} {w : zJ} {x1 : Int32} {x2 : Int32} {x3 : Int32} {x4 : Int32} {x5 : Int32} {r0 : Int32} {o' : zS} {t' : zS} (hf : f_X3_day o s n t x1 x2 x3 x4 x5 = some (r0, o', t')) : zMI l yX3_day (zW yX3_day cX3_day 9 (some .int)) { frames := 6, cells := 0, slots := 0, locals := 134 } D cy [.ref (ad 0), .int x1, .int x2, .int x3, .int x4, .int x5] (wdX ad cy o s n t r w) r0 (wdX ad cy o' s n t' r w) := by
  unfold f_X3_day at hf
  refine zEI (ty := .int) (by decide) (Nat.le_of_ble_eq_true rfl) ?_
  intro p e s9 m9 below meth c A Q C0 hret ls hl hP hD
  have hl : lv_has ls 9 [(0, .ref (ad 0)), (1, .int x1), (2, .int x2), (3, .int x3), (4, .int x4), (5, .int x5)] := hl
  have hS : va_S A s9.heap s9.heap [] := va_S.rf
  obtain ⟨hx, hb, hml, hown, hts⟩ := id C0.1
  refine lv_aload_n hx hb dX3_day_0 rfl (lv_at hl 0 rfl) ?_
  refine lv_iconst (v := 0) hx hb dX3_day_1 (by decide) ?_
  obtain ⟨o1, eo1, hf⟩ := zq_lt_s hf
  refine pf_X3_42 (ws' := (wdX ad cy o1 s n t r w)) C0 hP hD hS 0 wdX_0 (Nat.le_of_ble_eq_true rfl) (by rw [eo1]; rfl) dX3_day_2 (fun H locs hP hD hS => ?_)
  refine lv_iload_n hx hb dX3_day_5 rfl (lv_at hl 1 rfl) ?_
  obtain ⟨r3, hc2, hf⟩ := zq_b1_s hf
  refine zSI (ws' := (wdX ad cy o1 s n t r w)) (rest := []) C0 (fun _ h => h) zF.nil (c_X3_isSheet hc2) hP hD hS my_X3_isSheet kl_X3_46 ⟨rfl, rfl⟩ ⟨Nat.le_of_ble_eq_true rfl, Nat.le_of_ble_eq_true rfl⟩ rfl hl.1 rfl (Nat.le_of_ble_eq_true rfl) dX3_day_6 ⟨Nat.zero_le _, Nat.zero_le _⟩ (fun H locs hP hD hS => ?_)
  refine lv_if_ne (tgt := 14) hx hb dX3_day_9 (by decide) (fun c4 => ?_) (fun c4 => ?_)
  · have hf := it_f c4 hf
    refine lv_iload_n hx hb dX3_day_14 rfl (lv_at hl 2 rfl) ?_
    obtain ⟨r6, hc5, hf⟩ := zq_b1_s hf
    refine zSI (ws' := (wdX ad cy o1 s n t r w)) (rest := []) C0 (fun _ h => h) zF.nil (c_X3_isLane hc5) hP hD hS my_X3_isLane kl_X3_50 ⟨rfl, rfl⟩ ⟨Nat.le_of_ble_eq_true rfl, Nat.le_of_ble_eq_true rfl⟩ rfl hl.1 rfl (Nat.le_of_ble_eq_true rfl) dX3_day_15 ⟨Nat.zero_le _, Nat.zero_le _⟩ (fun H locs hP hD hS => ?_)
    refine lv_if_eq (tgt := 41) hx hb dX3_day_18 (by decide) (fun c7 => ?_) (fun c7 => ?_)
    · have hf := it_t c7 hf
      refine lv_bipush (v := (-2)) hx hb dX3_day_41 (by decide) ?_
      obtain ⟨rfl, rfl, rfl⟩ := zq_j3 hf
      exact hret _ _ _ _ rfl dX3_day_43 hP hD hS
    · have hf := it_f c7 hf
      refine lv_iload hx hb dX3_day_21 (lv_at hl 4 rfl) ?_
      refine lv_if_lt (tgt := 41) hx hb dX3_day_23 (by decide) (fun c8 => ?_) (fun c8 => ?_)
      · have hf := it_t c8 hf
        refine lv_bipush (v := (-2)) hx hb dX3_day_41 (by decide) ?_
        obtain ⟨rfl, rfl, rfl⟩ := zq_j3 hf
        exact hret _ _ _ _ rfl dX3_day_43 hP hD hS
      · have hf := it_f c8 hf
        refine lv_iload hx hb dX3_day_26 (lv_at hl 4 rfl) ?_
        refine lv_bipush (v := 20) hx hb dX3_day_28 (by decide) ?_
        refine lv_icmp_gt (tgt := 41) hx hb dX3_day_30 (by decide) (fun c9 => ?_) (fun c9 => ?_)
        · have hf := it_t c9 hf
          refine lv_bipush (v := (-2)) hx hb dX3_day_41 (by decide) ?_
          obtain ⟨rfl, rfl, rfl⟩ := zq_j3 hf
          exact hret _ _ _ _ rfl dX3_day_43 hP hD hS
        · have hf := it_f c9 hf
          refine lv_iload hx hb dX3_day_33 (lv_at hl 5 rfl) ?_
          obtain ⟨r11, hc10, hf⟩ := zq_b1_s hf
          refine zSI (ws' := (wdX ad cy o1 s n t r w)) (rest := []) C0 (fun _ h => h) zF.nil (c_X3_isOfDay hc10) hP hD hS my_X3_isOfDay kl_X3_173 ⟨rfl, rfl⟩ ⟨Nat.le_of_ble_eq_true rfl, Nat.le_of_ble_eq_true rfl⟩ rfl hl.1 rfl (Nat.le_of_ble_eq_true rfl) dX3_day_35 ⟨Nat.zero_le _, Nat.zero_le _⟩ (fun H locs hP hD hS => ?_)
          refine lv_if_ne (tgt := 44) hx hb dX3_day_38 (by decide) (fun c12 => ?_) (fun c12 => ?_)
          · have hf := it_f c12 hf
            refine lv_aload_n hx hb dX3_day_44 rfl (lv_at hl 0 rfl) ?_
            refine gf_X3_20 C0 hP 0 wdX_0 rfl dX3_day_45 ?_
            obtain ⟨r14, hc13, hf⟩ := zq_b1_s hf
            refine zVI (ws' := (wdX ad cy o1 s n t r w)) (rest := []) C0 (fun _ h => h) fX_n (c_X2_stands (ad := fun j => ad (10 + j)) hc13) hP hD hS my_X2_stands kl_X3_125 ⟨rfl, rfl⟩ ⟨Nat.le_of_ble_eq_true rfl, Nat.le_of_ble_eq_true rfl⟩ (q0 := 10) (ci := 2) rfl wdX_10 rfl hl.1 rfl (Nat.le_of_ble_eq_true rfl) dX3_day_48 ⟨Nat.zero_le _, Nat.zero_le _⟩ (fun H locs hP hD hS => ?_)
            refine lv_if_ne (tgt := 57) hx hb dX3_day_51 (by decide) (fun c15 => ?_) (fun c15 => ?_)
            · have hf := it_f c15 hf
              refine lv_aload_n hx hb dX3_day_57 rfl (lv_at hl 0 rfl) ?_
              refine gf_X3_13 C0 hP 0 wdX_0 rfl dX3_day_58 ?_
              refine lv_iload_n hx hb dX3_day_61 rfl (lv_at hl 1 rfl) ?_
              obtain ⟨h16, hf⟩ := zq_in_s hf
              have hk17 := vp_lt h16
              refine zra C0 hP 1 wdX_1 (zRw_at hk17) h16 dX3_day_62 ?_
              refine lv_astore (lv' := [(6, .ref (ad (2 + 2 * (Int32.toNatClampNeg x1)))), (0, .ref (ad 0)), (1, .int x1), (2, .int x2), (3, .int x3), (4, .int x4), (5, .int x5)]) hx hb dX3_day_63 hl (by decide) rfl (fun ls hl => ?_)
              refine lv_aload hx hb dX3_day_65 (lv_at hl 0 rfl) ?_
              refine lv_iload_n hx hb dX3_day_67 rfl (lv_at hl 3 rfl) ?_
              refine lv_iload_n hx hb dX3_day_68 rfl (lv_at hl 4 rfl) ?_
              refine lv_iconst (v := 2) hx hb dX3_day_69 (by decide) ?_
              refine lv_iload hx hb dX3_day_70 (lv_at hl 5 rfl) ?_
              refine lv_imul hx hb dX3_day_72 ?_
              obtain ⟨r19, hc18, hf⟩ := zq_b1_s hf
              refine zVI (ws' := (wdX ad cy o1 s n t r w)) (rest := []) C0 (fun _ h => h) (fX_s0 hk17) (c_X1_faultOfCells (ad := fun j => ad (2 + 2 * (Int32.toNatClampNeg x1) + j)) hc18) hP hD hS my_X1_faultOfCells kl_X3_53 ⟨rfl, rfl⟩ ⟨Nat.le_of_ble_eq_true rfl, Nat.le_of_ble_eq_true rfl⟩ (q0 := (2 + 2 * (Int32.toNatClampNeg x1))) (ci := 1) rfl (wdX_sh hk17) rfl hl.1 rfl (Nat.le_of_ble_eq_true rfl) dX3_day_73 ⟨Nat.zero_le _, Nat.zero_le _⟩ (fun H locs hP hD hS => ?_)
              refine lv_istore (lv' := [(7, .int r19), (6, .ref (ad (2 + 2 * (Int32.toNatClampNeg x1)))), (0, .ref (ad 0)), (1, .int x1), (2, .int x2), (3, .int x3), (4, .int x4), (5, .int x5)]) hx hb dX3_day_76 hl (by decide) rfl (fun ls hl => ?_)
              refine lv_iload hx hb dX3_day_78 (lv_at hl 0 rfl) ?_
              refine lv_if_eq (tgt := 90) hx hb dX3_day_80 (by decide) (fun c20 => ?_) (fun c20 => ?_)
              · have hf := it_t c20 hf
                refine lv_iload_n hx hb dX3_day_90 rfl (lv_at hl 5 rfl) ?_
                refine lv_istore (lv' := [(8, .int x3), (7, .int r19), (6, .ref (ad (2 + 2 * (Int32.toNatClampNeg x1)))), (0, .ref (ad 0)), (1, .int x1), (2, .int x2), (3, .int x3), (4, .int x4), (5, .int x5)]) hx hb dX3_day_91 hl (by decide) rfl (fun ls hl => ?_)
                rcases zq_s1_1_s hf with ⟨_u, hL29, hf⟩ | ⟨_u, hL29, hf⟩
                · refine w_X3_day_L93 C0 hk17 (zq_el1 ?_) (zq_nr1) 100 x3 hL29 _ _ _ hP hD hS (lv_sub hl [3, 6, 7, 8, 2, 0] rfl)
                  intro H locs ls hP hD hS hl
                  refine lv_aload_n hx hb dX3_day_137 rfl (lv_at hl 0 rfl) ?_
                  refine gf_X3_24 C0 hP 0 wdX_0 rfl dX3_day_138 ?_
                  refine lv_aload_n hx hb dX3_day_141 rfl (lv_at hl 0 rfl) ?_
                  refine gf_X3_20 C0 hP 0 wdX_0 rfl dX3_day_142 ?_
                  obtain ⟨t31, hc30, hf⟩ := zq_b1_s hf
                  refine zVV (ws' := (wdX ad cy o1 s n t31 r w)) (rest := []) C0 (fun _ h => h) fX_tn (c_X2_becomeLike (ad := fun j => ad (19 + j)) (a2 := fun j => ad (10 + j)) hc30) hP hD hS my_X2_becomeLike kl_X3_65 ⟨rfl, rfl⟩ ⟨Nat.le_of_ble_eq_true rfl, Nat.le_of_ble_eq_true rfl⟩ (q0 := 19) (ci := 2) rfl wdX_19 rfl hl.1 rfl (Nat.le_of_ble_eq_true rfl) dX3_day_145 ⟨Nat.zero_le _, Nat.zero_le _⟩ (fun H locs hP hD hS => ?_)
                  refine lv_aload_n hx hb dX3_day_148 rfl (lv_at hl 0 rfl) ?_
                  refine gf_X3_24 C0 hP 0 wdX_0 rfl dX3_day_149 ?_
                  refine lv_aload hx hb dX3_day_152 (lv_at hl 4 rfl) ?_
                  refine lv_iload_n hx hb dX3_day_154 rfl (lv_at hl 1 rfl) ?_
                  refine lv_iload hx hb dX3_day_155 (lv_at hl 2 rfl) ?_
                  obtain ⟨r33, t34, hc32, hf⟩ := zq_b2_s hf
                  refine zVI (ws' := (wdX ad cy o1 s n t34 r w)) (rest := []) C0 (fun _ h => h) (fX_ts hk17) (c_X2_live (ad := fun j => ad (19 + j)) (a2 := fun j => ad (2 + 2 * (Int32.toNatClampNeg x1) + j)) hc32) hP hD hS my_X2_live kl_X3_180 ⟨rfl, rfl⟩ ⟨Nat.le_of_ble_eq_true rfl, Nat.le_of_ble_eq_true rfl⟩ (q0 := 19) (ci := 2) rfl wdX_19 rfl hl.1 rfl (Nat.le_of_ble_eq_true rfl) dX3_day_157 ⟨Nat.zero_le _, Nat.zero_le _⟩ (fun H locs hP hD hS => ?_)
                  refine lv_istore (lv' := [(8, .int r33), (0, .ref (ad 0)), (3, .int x3), (4, .int x4), (5, .int x5), (6, .ref (ad (2 + 2 * (Int32.toNatClampNeg x1))))]) hx hb dX3_day_160 hl (by decide) rfl (fun ls hl => ?_)
                  refine lv_iload hx hb dX3_day_162 (lv_at hl 4 rfl) ?_
                  refine lv_iconst (v := 1) hx hb dX3_day_164 (by decide) ?_
                  refine lv_icmp_ne (tgt := 171) hx hb dX3_day_165 (by decide) (fun c35 => ?_) (fun c35 => ?_)
                  · have hf := it_f c35 hf
                    refine lv_iload hx hb dX3_day_171 (lv_at hl 0 rfl) ?_
                    refine lv_bipush (v := (-9)) hx hb dX3_day_173 (by decide) ?_
                    refine lv_icmp_eq (tgt := 186) hx hb dX3_day_175 (by decide) (fun c36 => ?_) (fun c36 => ?_)
                    · have hf := it_t c36 hf
                      refine lv_aload_n hx hb dX3_day_186 rfl (lv_at hl 1 rfl) ?_
                      refine lv_iload hx hb dX3_day_187 (lv_at hl 4 rfl) ?_
                      obtain ⟨r38, hc37, hf⟩ := zq_b1_s hf
                      refine zVI (ws' := (wdX ad cy o1 s n t34 r w)) (rest := []) C0 (fun _ h => h) zF.id (c_X3_endOfDay hc37) hP hD hS my_X3_endOfDay kl_X3_183 ⟨rfl, rfl⟩ ⟨Nat.le_of_ble_eq_true rfl, Nat.le_of_ble_eq_true rfl⟩ (q0 := 0) (ci := 3) rfl wdX_0 rfl hl.1 rfl (Nat.le_of_ble_eq_true rfl) dX3_day_189 ⟨Nat.zero_le _, Nat.zero_le _⟩ (fun H locs hP hD hS => ?_)
                      obtain ⟨rfl, rfl, rfl⟩ := zq_j3 hf
                      exact hret _ _ _ _ rfl dX3_day_192 hP hD hS
                    · have hf := it_f c36 hf
                      refine lv_bipush (v := (-100)) hx hb dX3_day_178 (by decide) ?_
                      refine lv_iload hx hb dX3_day_180 (lv_at hl 0 rfl) ?_
                      refine lv_isub hx hb dX3_day_182 ?_
                      refine lv_goto (tgt := 192) hx hb dX3_day_183 (by decide) ?_
                      obtain ⟨rfl, rfl, rfl⟩ := zq_j3 hf
                      exact hret _ _ _ _ rfl dX3_day_192 hP hD hS
                  · have hf := it_t c35 hf
                    refine lv_iload hx hb dX3_day_168 (lv_at hl 0 rfl) ?_
                    obtain ⟨rfl, rfl, rfl⟩ := zq_j3 hf
                    exact hret _ _ _ _ rfl dX3_day_170 hP hD hS
                · refine w_X3_day_L93 C0 hk17 (zq_nl1) (zq_er1 ?_) 100 x3 hL29 _ _ _ hP hD hS (lv_sub hl [3, 6, 7, 8, 2, 0] rfl)
                  intro H locs ls hP hD hS hl
                  refine lv_bipush (v := (-2)) hx hb dX3_day_128 (by decide) ?_
                  obtain ⟨rfl, rfl, rfl⟩ := zq_j3 hf
                  exact hret _ _ _ _ rfl dX3_day_130 hP hD hS
              · have hf := it_f c20 hf
                refine lv_aload_n hx hb dX3_day_83 rfl (lv_at hl 2 rfl) ?_
                refine lv_iload hx hb dX3_day_84 (lv_at hl 0 rfl) ?_
                obtain ⟨r40, o41, hc39, hf⟩ := zq_b2_s hf
                refine zVI (ws' := (wdX ad cy o41 s n t r w)) (rest := []) C0 (fun _ h => h) zF.id (c_X3_faulted hc39) hP hD hS my_X3_faulted kl_X3_57 ⟨rfl, rfl⟩ ⟨Nat.le_of_ble_eq_true rfl, Nat.le_of_ble_eq_true rfl⟩ (q0 := 0) (ci := 3) rfl wdX_0 rfl hl.1 rfl (Nat.le_of_ble_eq_true rfl) dX3_day_86 ⟨Nat.zero_le _, Nat.zero_le _⟩ (fun H locs hP hD hS => ?_)
                obtain ⟨rfl, rfl, rfl⟩ := zq_j3 hf
                exact hret _ _ _ _ rfl dX3_day_89 hP hD hS
            · have hf := it_t c15 hf
              refine lv_bipush (v := (-3)) hx hb dX3_day_54 (by decide) ?_
              obtain ⟨rfl, rfl, rfl⟩ := zq_j3 hf
              exact hret _ _ _ _ rfl dX3_day_56 hP hD hS
          · have hf := it_t c12 hf
            refine lv_bipush (v := (-2)) hx hb dX3_day_41 (by decide) ?_
            obtain ⟨rfl, rfl, rfl⟩ := zq_j3 hf
            exact hret _ _ _ _ rfl dX3_day_43 hP hD hS
  · have hf := it_t c4 hf
    refine lv_iconst (v := (-1)) hx hb dX3_day_12 (by decide) ?_
    obtain ⟨rfl, rfl, rfl⟩ := zq_j3 hf
    exact hret _ _ _ _ rfl dX3_day_13 hP hD hS

def f_X3_reading (n : zS) (r : zS) (x1 : Int32) (x2 : Int32) (x3 : Int32) : Option (Int32 × zS) :=
  zq_b1 (f_X2_hasLamp n x2) (fun r2 =>
  if r2 = 0 then (
  some ((-1), r)) else (
  zq_b1 (f_X3_isUnit x1) (fun r5 =>
  if r5 = 0 then (
  some ((-2), r)) else (
  if x3 < 0 then (
  some ((-2), r)) else (
  if x3 ≤ 1 then (
  if (r 3 0) < 8 then (
  if x3 = 1 then (
  zq_b2 (f_X0_note r x1 x2 1) (fun r15 r16 =>
  some (r15, r16))) else (
  zq_b2 (f_X0_note r x1 x2 0) (fun r12 r13 =>
  some (r12, r13)))) else (
  some ((-4), r))) else (
  some ((-2), r)))))))
set_option maxHeartbeats 4000000 in
set_option maxRecDepth 100000 in
theorem c_X3_reading {l : Launch} {D : va_G} {ad : Nat → Nat} {cy : Nat → ClassId} {o : zS} {s : zS4} {n : zS} {t : zS} {r : zS} {w : zJ} {x1 : Int32} {x2 : Int32} {x3 : Int32} {r0 : Int32} {r' : zS} (hf : f_X3_reading n r x1 x2 x3 = some (r0, r')) : zMI l yX3_reading (zW yX3_reading cX3_reading 4 (some .int)) { frames := 1, cells := 0, slots := 0, locals := 23 } D cy [.ref (ad 0), .int x1, .int x2, .int x3] (wdX ad cy o s n t r w) r0 (wdX ad cy o s n t r' w) := by
  unfold f_X3_reading at hf
  refine zEI (ty := .int) (by decide) (Nat.le_of_ble_eq_true rfl) ?_
  intro p e s9 m9 below meth c A Q C0 hret ls hl hP hD
  have hl : lv_has ls 4 [(0, .ref (ad 0)), (1, .int x1), (2, .int x2), (3, .int x3)] := hl
  have hS : va_S A s9.heap s9.heap [] := va_S.rf
  obtain ⟨hx, hb, hml, hown, hts⟩ := id C0.1
  refine lv_aload_n hx hb dX3_reading_0 rfl (lv_at hl 0 rfl) ?_
  refine gf_X3_20 C0 hP 0 wdX_0 rfl dX3_reading_1 ?_
  refine lv_iload_n hx hb dX3_reading_4 rfl (lv_at hl 2 rfl) ?_
  obtain ⟨r2, hc1, hf⟩ := zq_b1_s hf
  refine zVI (ws' := (wdX ad cy o s n t r w)) (rest := []) C0 (fun _ h => h) fX_n (c_X2_hasLamp (ad := fun j => ad (10 + j)) hc1) hP hD hS my_X2_hasLamp kl_X3_95 ⟨rfl, rfl⟩ ⟨Nat.le_of_ble_eq_true rfl, Nat.le_of_ble_eq_true rfl⟩ (q0 := 10) (ci := 2) rfl wdX_10 rfl hl.1 rfl (Nat.le_of_ble_eq_true rfl) dX3_reading_5 ⟨Nat.zero_le _, Nat.zero_le _⟩ (fun H locs hP hD hS => ?_)
  refine lv_if_ne (tgt := 13) hx hb dX3_reading_8 (by decide) (fun c3 => ?_) (fun c3 => ?_)
  · have hf := it_f c3 hf
    refine lv_iload_n hx hb dX3_reading_13 rfl (lv_at hl 1 rfl) ?_
    obtain ⟨r5, hc4, hf⟩ := zq_b1_s hf
    refine zSI (ws' := (wdX ad cy o s n t r w)) (rest := []) C0 (fun _ h => h) zF.nil (c_X3_isUnit hc4) hP hD hS my_X3_isUnit kl_X3_136 ⟨rfl, rfl⟩ ⟨Nat.le_of_ble_eq_true rfl, Nat.le_of_ble_eq_true rfl⟩ rfl hl.1 rfl (Nat.le_of_ble_eq_true rfl) dX3_reading_14 ⟨Nat.zero_le _, Nat.zero_le _⟩ (fun H locs hP hD hS => ?_)
    refine lv_if_eq (tgt := 29) hx hb dX3_reading_17 (by decide) (fun c6 => ?_) (fun c6 => ?_)
    · have hf := it_t c6 hf
      refine lv_bipush (v := (-2)) hx hb dX3_reading_29 (by decide) ?_
      obtain ⟨rfl, rfl⟩ := zq_j2 hf
      exact hret _ _ _ _ rfl dX3_reading_31 hP hD hS
    · have hf := it_f c6 hf
      refine lv_iload_n hx hb dX3_reading_20 rfl (lv_at hl 3 rfl) ?_
      refine lv_if_lt (tgt := 29) hx hb dX3_reading_21 (by decide) (fun c7 => ?_) (fun c7 => ?_)
      · have hf := it_t c7 hf
        refine lv_bipush (v := (-2)) hx hb dX3_reading_29 (by decide) ?_
        obtain ⟨rfl, rfl⟩ := zq_j2 hf
        exact hret _ _ _ _ rfl dX3_reading_31 hP hD hS
      · have hf := it_f c7 hf
        refine lv_iload_n hx hb dX3_reading_24 rfl (lv_at hl 3 rfl) ?_
        refine lv_iconst (v := 1) hx hb dX3_reading_25 (by decide) ?_
        refine lv_icmp_le (tgt := 32) hx hb dX3_reading_26 (by decide) (fun c8 => ?_) (fun c8 => ?_)
        · have hf := it_t c8 hf
          refine lv_aload_n hx hb dX3_reading_32 rfl (lv_at hl 0 rfl) ?_
          refine gf_X3_30 C0 hP 0 wdX_0 rfl dX3_reading_33 ?_
          refine gf_X3_69 C0 hP 28 wdX_28 rfl dX3_reading_36 ?_
          refine lv_bipush (v := 8) hx hb dX3_reading_39 (by decide) ?_
          refine lv_icmp_lt (tgt := 47) hx hb dX3_reading_41 (by decide) (fun c9 => ?_) (fun c9 => ?_)
          · have hf := it_t c9 hf
            refine lv_aload_n hx hb dX3_reading_47 rfl (lv_at hl 0 rfl) ?_
            refine gf_X3_30 C0 hP 0 wdX_0 rfl dX3_reading_48 ?_
            refine lv_iload_n hx hb dX3_reading_51 rfl (lv_at hl 1 rfl) ?_
            refine lv_iload_n hx hb dX3_reading_52 rfl (lv_at hl 2 rfl) ?_
            refine lv_iload_n hx hb dX3_reading_53 rfl (lv_at hl 3 rfl) ?_
            refine lv_iconst (v := 1) hx hb dX3_reading_54 (by decide) ?_
            refine lv_icmp_ne (tgt := 62) hx hb dX3_reading_55 (by decide) (fun c10 => ?_) (fun c10 => ?_)
            · have hf := it_f c10 hf
              refine lv_iconst (v := 0) hx hb dX3_reading_62 (by decide) ?_
              obtain ⟨r12, r13, hc11, hf⟩ := zq_b2_s hf
              refine zVI (ws' := (wdX ad cy o s n t r13 w)) (rest := []) C0 (fun _ h => h) fX_r (c_X0_note (ad := fun j => ad (28 + j)) hc11) hP hD hS my_X0_note kl_X3_186 ⟨rfl, rfl⟩ ⟨Nat.le_of_ble_eq_true rfl, Nat.le_of_ble_eq_true rfl⟩ (q0 := 28) (ci := 0) rfl wdX_28 rfl hl.1 rfl (Nat.le_of_ble_eq_true rfl) dX3_reading_63 ⟨Nat.zero_le _, Nat.zero_le _⟩ (fun H locs hP hD hS => ?_)
              obtain ⟨rfl, rfl⟩ := zq_j2 hf
              exact hret _ _ _ _ rfl dX3_reading_66 hP hD hS
            · have hf := it_t c10 hf
              refine lv_iconst (v := 1) hx hb dX3_reading_58 (by decide) ?_
              refine lv_goto (tgt := 63) hx hb dX3_reading_59 (by decide) ?_
              obtain ⟨r15, r16, hc14, hf⟩ := zq_b2_s hf
              refine zVI (ws' := (wdX ad cy o s n t r16 w)) (rest := []) C0 (fun _ h => h) fX_r (c_X0_note (ad := fun j => ad (28 + j)) hc14) hP hD hS my_X0_note kl_X3_186 ⟨rfl, rfl⟩ ⟨Nat.le_of_ble_eq_true rfl, Nat.le_of_ble_eq_true rfl⟩ (q0 := 28) (ci := 0) rfl wdX_28 rfl hl.1 rfl (Nat.le_of_ble_eq_true rfl) dX3_reading_63 ⟨Nat.zero_le _, Nat.zero_le _⟩ (fun H locs hP hD hS => ?_)
              obtain ⟨rfl, rfl⟩ := zq_j2 hf
              exact hret _ _ _ _ rfl dX3_reading_66 hP hD hS
          · have hf := it_f c9 hf
            refine lv_bipush (v := (-4)) hx hb dX3_reading_44 (by decide) ?_
            obtain ⟨rfl, rfl⟩ := zq_j2 hf
            exact hret _ _ _ _ rfl dX3_reading_46 hP hD hS
        · have hf := it_f c8 hf
          refine lv_bipush (v := (-2)) hx hb dX3_reading_29 (by decide) ?_
          obtain ⟨rfl, rfl⟩ := zq_j2 hf
          exact hret _ _ _ _ rfl dX3_reading_31 hP hD hS
  · have hf := it_t c3 hf
    refine lv_iconst (v := (-1)) hx hb dX3_reading_11 (by decide) ?_
    obtain ⟨rfl, rfl⟩ := zq_j2 hf
    exact hret _ _ _ _ rfl dX3_reading_12 hP hD hS

def f_X3_back (r : zS) (x1 : Int32) : Option (Int32 × zS) :=
  if x1 < 0 then (
  some ((-2), r)) else (
  if x1 ≤ (r 3 0) then (
  zq_lt (va_up r 3 (fun _ => ((r 3 0) - x1))) (fun r3 =>
  some ((r3 3 0), r3))) else (
  some ((-2), r)))
set_option maxHeartbeats 4000000 in
set_option maxRecDepth 100000 in
theorem c_X3_back {l : Launch} {D : va_G} {ad : Nat → Nat} {cy : Nat → ClassId} {o : zS} {s : zS4} {n : zS} {t : zS} {r : zS} {w : zJ} {x1 : Int32} {r0 : Int32} {r' : zS} (hf : f_X3_back r x1 = some (r0, r')) : zMI l yX3_back (zW yX3_back cX3_back 2 (some .int)) { frames := 0, cells := 0, slots := 0, locals := 0 } D cy [.ref (ad 0), .int x1] (wdX ad cy o s n t r w) r0 (wdX ad cy o s n t r' w) := by
  unfold f_X3_back at hf
  refine zEI (ty := .int) (by decide) (Nat.le_of_ble_eq_true rfl) ?_
  intro p e s9 m9 below meth c A Q C0 hret ls hl hP hD
  have hl : lv_has ls 2 [(0, .ref (ad 0)), (1, .int x1)] := hl
  have hS : va_S A s9.heap s9.heap [] := va_S.rf
  obtain ⟨hx, hb, hml, hown, hts⟩ := id C0.1
  refine lv_iload_n hx hb dX3_back_0 rfl (lv_at hl 1 rfl) ?_
  refine lv_if_lt (tgt := 15) hx hb dX3_back_1 (by decide) (fun c1 => ?_) (fun c1 => ?_)
  · have hf := it_t c1 hf
    refine lv_bipush (v := (-2)) hx hb dX3_back_15 (by decide) ?_
    obtain ⟨rfl, rfl⟩ := zq_j2 hf
    exact hret _ _ _ _ rfl dX3_back_17 hP hD hS
  · have hf := it_f c1 hf
    refine lv_iload_n hx hb dX3_back_4 rfl (lv_at hl 1 rfl) ?_
    refine lv_aload_n hx hb dX3_back_5 rfl (lv_at hl 0 rfl) ?_
    refine gf_X3_30 C0 hP 0 wdX_0 rfl dX3_back_6 ?_
    refine gf_X3_69 C0 hP 28 wdX_28 rfl dX3_back_9 ?_
    refine lv_icmp_le (tgt := 18) hx hb dX3_back_12 (by decide) (fun c2 => ?_) (fun c2 => ?_)
    · have hf := it_t c2 hf
      refine lv_aload_n hx hb dX3_back_18 rfl (lv_at hl 0 rfl) ?_
      refine gf_X3_30 C0 hP 0 wdX_0 rfl dX3_back_19 ?_
      refine lv_dup hx hb dX3_back_22 rfl ?_
      refine gf_X3_69 C0 hP 28 wdX_28 rfl dX3_back_23 ?_
      refine lv_iload_n hx hb dX3_back_26 rfl (lv_at hl 1 rfl) ?_
      refine lv_isub hx hb dX3_back_27 ?_
      obtain ⟨r3, er3, hf⟩ := zq_lt_s hf
      refine pf_X3_69 (ws' := (wdX ad cy o s n t r3 w)) C0 hP hD hS 28 wdX_28 (Nat.le_of_ble_eq_true rfl) (by rw [er3]; rfl) dX3_back_28 (fun H locs hP hD hS => ?_)
      refine lv_aload_n hx hb dX3_back_31 rfl (lv_at hl 0 rfl) ?_
      refine gf_X3_30 C0 hP 0 wdX_0 rfl dX3_back_32 ?_
      refine gf_X3_69 C0 hP 28 wdX_28 rfl dX3_back_35 ?_
      obtain ⟨rfl, rfl⟩ := zq_j2 hf
      exact hret _ _ _ _ rfl dX3_back_38 hP hD hS
    · have hf := it_f c2 hf
      refine lv_bipush (v := (-2)) hx hb dX3_back_15 (by decide) ?_
      obtain ⟨rfl, rfl⟩ := zq_j2 hf
      exact hret _ _ _ _ rfl dX3_back_17 hP hD hS

def f_X3_kinds_L28 (r : zS) (x1 : Int32) : Nat → Int32 → Int32 → zS → Option (Int32 × zS)
  | 0, _, _, _ => none
  | q9 + 1, x2, x3, t =>
  if 3 ≤ x3 then (
  some (x2, t)) else (
  zq_in 4 x1 (zq_lt (va_up t 0 (upd (t 0) (Int32.toNatClampNeg x1) x3)) (fun t8 =>
  zq_b1 (f_X0_holdFor r t8) (fun r10 =>
  if r10 = 0 then (
  f_X3_kinds_L28 r x1 q9 x2 (x3 + 1) t8) else (
  f_X3_kinds_L28 r x1 q9 (x2 ||| (1 <<< (x3 &&& 31))) (x3 + 1) t8)))))
def f_X3_kinds (n : zS) (t : zS) (r : zS) (x1 : Int32) : Option (Int32 × zS) :=
  zq_b1 (f_X2_hasModule n x1) (fun r2 =>
  if r2 = 0 then (
  some ((-1), t)) else (
  zq_b1 (f_X2_becomeLike t n) (fun t5 =>
  zq_b2 (f_X3_kinds_L28 r x1 100 0 0 t5) (fun y13 t14 =>
  some (y13, t14)))))
set_option maxHeartbeats 4000000 in
set_option maxRecDepth 100000 in
theorem w_X3_kinds_L28 {l : Launch} {p : Program} {e : Env} {s9 : State} {m9 : MethodId} {ag : Array Value} {below : List Frame} {meth : Method} {c : Code} {A : Nat → Prop} {Q : State → Prop} {D : va_G} {ad : Nat → Nat} {cy : Nat → ClassId} {o : zS} {s : zS4} {n : zS} {r : zS} {w : zJ} {x1 : Int32} (C0 : zCx p s9 m9 ag c cX3_kinds 4 RX3 D cy A)  {o2 : Int32} {to : zS} (e0 : ∀ (H : Heap) (locs : List Loc) (ls : Array Slot), va_P D vwCl (wdX ad cy o s n to r w) H → va_D A (wdX ad cy o s n to r w) → va_S A s9.heap H locs → lv_has ls 4 [(2, .int o2)] → W p l e { frames := 4, cells := 0, slots := 0, locals := 88 } s9 m9 ag below meth c H locs 0 0 Q (F0 m9 69 ls [])) : ∀ (q9 : Nat) (x2 : Int32) (x3 : Int32) (t : zS), f_X3_kinds_L28 r x1 q9 x2 x3 t = some (o2, to) → ∀ (H : Heap) (locs : List Loc) (ls : Array Slot), va_P D vwCl (wdX ad cy o s n t r w) H → va_D A (wdX ad cy o s n t r w) → va_S A s9.heap H locs → lv_has ls 4 [(0, .ref (ad 0)), (1, .int x1), (2, .int x2), (3, .int x3)] → W p l e { frames := 4, cells := 0, slots := 0, locals := 88 } s9 m9 ag below meth c H locs 0 0 Q (F0 m9 28 ls []) := by
  obtain ⟨hx, hb, hml, hown, hts⟩ := id C0.1
  intro q9
  induction q9 with
  | zero =>
    intro x2 x3 t hf
    rw [f_X3_kinds_L28] at hf
    cases hf
  | succ q9 ih =>
    intro x2 x3 t hf H locs ls hP hD hS hl
    rw [f_X3_kinds_L28] at hf
    refine lv_iload_n hx hb dX3_kinds_28 rfl (lv_at hl 3 rfl) ?_
    refine lv_iconst (v := 3) hx hb dX3_kinds_29 (by decide) ?_
    refine lv_icmp_ge (tgt := 69) hx hb dX3_kinds_30 (by decide) (fun c6 => ?_) (fun c6 => ?_)
    · have hf := it_t c6 hf
      obtain ⟨rfl, rfl⟩ := zq_j2 hf
      exact e0 _ _ _ hP hD hS (lv_sub hl [2] rfl)
    · have hf := it_f c6 hf
      refine lv_aload_n hx hb dX3_kinds_33 rfl (lv_at hl 0 rfl) ?_
      refine gf_X3_24 C0 hP 0 wdX_0 rfl dX3_kinds_34 ?_
      refine gf_X3_78 C0 hP 19 wdX_19 rfl dX3_kinds_37 ?_
      refine lv_iload_n hx hb dX3_kinds_40 rfl (lv_at hl 1 rfl) ?_
      refine lv_iload_n hx hb dX3_kinds_41 rfl (lv_at hl 3 rfl) ?_
      obtain ⟨h7, hf⟩ := zq_in_s hf
      obtain ⟨t8, et8, hf⟩ := zq_lt_s hf
      refine zis (ws' := (wdX ad cy o s n t8 r w)) C0 hP hD hS 20 wdX_20 h7 (by rw [et8]; rfl) dX3_kinds_42 (fun H locs hP hD hS => ?_)
      refine lv_aload_n hx hb dX3_kinds_43 rfl (lv_at hl 0 rfl) ?_
      refine gf_X3_30 C0 hP 0 wdX_0 rfl dX3_kinds_44 ?_
      refine lv_aload_n hx hb dX3_kinds_47 rfl (lv_at hl 0 rfl) ?_
      refine gf_X3_24 C0 hP 0 wdX_0 rfl dX3_kinds_48 ?_
      obtain ⟨r10, hc9, hf⟩ := zq_b1_s hf
      refine zVI (ws' := (wdX ad cy o s n t8 r w)) (rest := []) C0 (fun _ h => h) fX_rt (c_X0_holdFor (ad := fun j => ad (28 + j)) (a2 := fun j => ad (19 + j)) hc9) hP hD hS my_X0_holdFor kl_X3_190 ⟨rfl, rfl⟩ ⟨Nat.le_of_ble_eq_true rfl, Nat.le_of_ble_eq_true rfl⟩ (q0 := 28) (ci := 0) rfl wdX_28 rfl hl.1 rfl (Nat.le_of_ble_eq_true rfl) dX3_kinds_51 ⟨Nat.zero_le _, Nat.zero_le _⟩ (fun H locs hP hD hS => ?_)
      refine lv_if_eq (tgt := 63) hx hb dX3_kinds_54 (by decide) (fun c11 => ?_) (fun c11 => ?_)
      · have hf := it_t c11 hf
        refine lv_iinc (v := (x3 + 1)) (lv' := [(3, .int (x3 + 1)), (0, .ref (ad 0)), (1, .int x1), (2, .int x2)]) hx hb dX3_kinds_63 hl (k := 3) rfl rfl (by decide) rfl (fun ls hl => ?_)
        refine lv_goto (tgt := 28) hx hb dX3_kinds_66 (by decide) ?_
        exact ih x2 (x3 + 1) t8 hf _ _ _ hP hD hS (lv_sub hl [1, 2, 3, 0] rfl)
      · have hf := it_f c11 hf
        refine lv_iload_n hx hb dX3_kinds_57 rfl (lv_at hl 2 rfl) ?_
        refine lv_iconst (v := 1) hx hb dX3_kinds_58 (by decide) ?_
        refine lv_iload_n hx hb dX3_kinds_59 rfl (lv_at hl 3 rfl) ?_
        refine lv_ishl hx hb dX3_kinds_60 ?_
        refine lv_ior hx hb dX3_kinds_61 ?_
        refine lv_istore_n (lv' := [(2, .int (x2 ||| (1 <<< (x3 &&& 31)))), (0, .ref (ad 0)), (1, .int x1), (3, .int x3)]) hx hb dX3_kinds_62 rfl hl (by decide) rfl (fun ls hl => ?_)
        refine lv_iinc (v := (x3 + 1)) (lv' := [(3, .int (x3 + 1)), (2, .int (x2 ||| (1 <<< (x3 &&& 31)))), (0, .ref (ad 0)), (1, .int x1)]) hx hb dX3_kinds_63 hl (k := 3) rfl rfl (by decide) rfl (fun ls hl => ?_)
        refine lv_goto (tgt := 28) hx hb dX3_kinds_66 (by decide) ?_
        exact ih (x2 ||| (1 <<< (x3 &&& 31))) (x3 + 1) t8 hf _ _ _ hP hD hS (lv_sub hl [2, 3, 1, 0] rfl)
set_option maxHeartbeats 4000000 in
set_option maxRecDepth 100000 in
theorem c_X3_kinds {l : Launch} {D : va_G} {ad : Nat → Nat} {cy : Nat → ClassId} {o : zS} {s : zS4} {n : zS} {t : zS} {r : zS} {w : zJ} {x1 : Int32} {r0 : Int32} {t' : zS} (hf : f_X3_kinds n t r x1 = some (r0, t')) : zMI l yX3_kinds (zW yX3_kinds cX3_kinds 4 (some .int)) { frames := 4, cells := 0, slots := 0, locals := 88 } D cy [.ref (ad 0), .int x1] (wdX ad cy o s n t r w) r0 (wdX ad cy o s n t' r w) := by
  unfold f_X3_kinds at hf
  refine zEI (ty := .int) (by decide) (Nat.le_of_ble_eq_true rfl) ?_
  intro p e s9 m9 below meth c A Q C0 hret ls hl hP hD
  have hl : lv_has ls 4 [(0, .ref (ad 0)), (1, .int x1)] := hl
  have hS : va_S A s9.heap s9.heap [] := va_S.rf
  obtain ⟨hx, hb, hml, hown, hts⟩ := id C0.1
  refine lv_aload_n hx hb dX3_kinds_0 rfl (lv_at hl 0 rfl) ?_
  refine gf_X3_20 C0 hP 0 wdX_0 rfl dX3_kinds_1 ?_
  refine lv_iload_n hx hb dX3_kinds_4 rfl (lv_at hl 1 rfl) ?_
  obtain ⟨r2, hc1, hf⟩ := zq_b1_s hf
  refine zVI (ws' := (wdX ad cy o s n t r w)) (rest := []) C0 (fun _ h => h) fX_n (c_X2_hasModule (ad := fun j => ad (10 + j)) hc1) hP hD hS my_X2_hasModule kl_X3_75 ⟨rfl, rfl⟩ ⟨Nat.le_of_ble_eq_true rfl, Nat.le_of_ble_eq_true rfl⟩ (q0 := 10) (ci := 2) rfl wdX_10 rfl hl.1 rfl (Nat.le_of_ble_eq_true rfl) dX3_kinds_5 ⟨Nat.zero_le _, Nat.zero_le _⟩ (fun H locs hP hD hS => ?_)
  refine lv_if_ne (tgt := 13) hx hb dX3_kinds_8 (by decide) (fun c3 => ?_) (fun c3 => ?_)
  · have hf := it_f c3 hf
    refine lv_aload_n hx hb dX3_kinds_13 rfl (lv_at hl 0 rfl) ?_
    refine gf_X3_24 C0 hP 0 wdX_0 rfl dX3_kinds_14 ?_
    refine lv_aload_n hx hb dX3_kinds_17 rfl (lv_at hl 0 rfl) ?_
    refine gf_X3_20 C0 hP 0 wdX_0 rfl dX3_kinds_18 ?_
    obtain ⟨t5, hc4, hf⟩ := zq_b1_s hf
    refine zVV (ws' := (wdX ad cy o s n t5 r w)) (rest := []) C0 (fun _ h => h) fX_tn (c_X2_becomeLike (ad := fun j => ad (19 + j)) (a2 := fun j => ad (10 + j)) hc4) hP hD hS my_X2_becomeLike kl_X3_65 ⟨rfl, rfl⟩ ⟨Nat.le_of_ble_eq_true rfl, Nat.le_of_ble_eq_true rfl⟩ (q0 := 19) (ci := 2) rfl wdX_19 rfl hl.1 rfl (Nat.le_of_ble_eq_true rfl) dX3_kinds_21 ⟨Nat.zero_le _, Nat.zero_le _⟩ (fun H locs hP hD hS => ?_)
    refine lv_iconst (v := 0) hx hb dX3_kinds_24 (by decide) ?_
    refine lv_istore_n (lv' := [(2, .int 0), (0, .ref (ad 0)), (1, .int x1)]) hx hb dX3_kinds_25 rfl hl (by decide) rfl (fun ls hl => ?_)
    refine lv_iconst (v := 0) hx hb dX3_kinds_26 (by decide) ?_
    refine lv_istore_n (lv' := [(3, .int 0), (2, .int 0), (0, .ref (ad 0)), (1, .int x1)]) hx hb dX3_kinds_27 rfl hl (by decide) rfl (fun ls hl => ?_)
    obtain ⟨y13, t14, hL12, hf⟩ := zq_b2_s hf
    refine w_X3_kinds_L28 C0 (fun H locs ls hP hD hS hl => ?_) 100 0 0 t5 hL12 _ _ _ hP hD hS (lv_sub hl [2, 3, 1, 0] rfl)
    refine lv_iload_n hx hb dX3_kinds_69 rfl (lv_at hl 0 rfl) ?_
    obtain ⟨rfl, rfl⟩ := zq_j2 hf
    exact hret _ _ _ _ rfl dX3_kinds_70 hP hD hS
  · have hf := it_t c3 hf
    refine lv_iconst (v := (-1)) hx hb dX3_kinds_11 (by decide) ?_
    obtain ⟨rfl, rfl⟩ := zq_j2 hf
    exact hret _ _ _ _ rfl dX3_kinds_12 hP hD hS

def f_X3_levels_L28 (r : zS) (x1 : Int32) : Nat → Int32 → Int32 → zS → Option (Int32 × zS)
  | 0, _, _, _ => none
  | q9 + 1, x2, x3, t =>
  if 9 < x3 then (
  some (x2, t)) else (
  zq_in 16 x1 (zq_lt (va_up t 4 (upd (t 4) (Int32.toNatClampNeg x1) x3)) (fun t8 =>
  zq_b1 (f_X0_holdFor r t8) (fun r10 =>
  if r10 = 0 then (
  f_X3_levels_L28 r x1 q9 x2 (x3 + 1) t8) else (
  f_X3_levels_L28 r x1 q9 (x2 ||| (1 <<< (x3 &&& 31))) (x3 + 1) t8)))))
def f_X3_levels (n : zS) (t : zS) (r : zS) (x1 : Int32) : Option (Int32 × zS) :=
  zq_b1 (f_X2_hasLamp n x1) (fun r2 =>
  if r2 = 0 then (
  some ((-1), t)) else (
  zq_b1 (f_X2_becomeLike t n) (fun t5 =>
  zq_b2 (f_X3_levels_L28 r x1 100 0 0 t5) (fun y13 t14 =>
  some (y13, t14)))))
set_option maxHeartbeats 4000000 in
set_option maxRecDepth 100000 in
theorem w_X3_levels_L28 {l : Launch} {p : Program} {e : Env} {s9 : State} {m9 : MethodId} {ag : Array Value} {below : List Frame} {meth : Method} {c : Code} {A : Nat → Prop} {Q : State → Prop} {D : va_G} {ad : Nat → Nat} {cy : Nat → ClassId} {o : zS} {s : zS4} {n : zS} {r : zS} {w : zJ} {x1 : Int32} (C0 : zCx p s9 m9 ag c cX3_levels 4 RX3 D cy A)  {o2 : Int32} {to : zS} (e0 : ∀ (H : Heap) (locs : List Loc) (ls : Array Slot), va_P D vwCl (wdX ad cy o s n to r w) H → va_D A (wdX ad cy o s n to r w) → va_S A s9.heap H locs → lv_has ls 4 [(2, .int o2)] → W p l e { frames := 4, cells := 0, slots := 0, locals := 88 } s9 m9 ag below meth c H locs 0 0 Q (F0 m9 70 ls [])) : ∀ (q9 : Nat) (x2 : Int32) (x3 : Int32) (t : zS), f_X3_levels_L28 r x1 q9 x2 x3 t = some (o2, to) → ∀ (H : Heap) (locs : List Loc) (ls : Array Slot), va_P D vwCl (wdX ad cy o s n t r w) H → va_D A (wdX ad cy o s n t r w) → va_S A s9.heap H locs → lv_has ls 4 [(0, .ref (ad 0)), (1, .int x1), (2, .int x2), (3, .int x3)] → W p l e { frames := 4, cells := 0, slots := 0, locals := 88 } s9 m9 ag below meth c H locs 0 0 Q (F0 m9 28 ls []) := by
  obtain ⟨hx, hb, hml, hown, hts⟩ := id C0.1
  intro q9
  induction q9 with
  | zero =>
    intro x2 x3 t hf
    rw [f_X3_levels_L28] at hf
    cases hf
  | succ q9 ih =>
    intro x2 x3 t hf H locs ls hP hD hS hl
    rw [f_X3_levels_L28] at hf
    refine lv_iload_n hx hb dX3_levels_28 rfl (lv_at hl 3 rfl) ?_
    refine lv_bipush (v := 9) hx hb dX3_levels_29 (by decide) ?_
    refine lv_icmp_gt (tgt := 70) hx hb dX3_levels_31 (by decide) (fun c6 => ?_) (fun c6 => ?_)
    · have hf := it_t c6 hf
      obtain ⟨rfl, rfl⟩ := zq_j2 hf
      exact e0 _ _ _ hP hD hS (lv_sub hl [2] rfl)
    · have hf := it_f c6 hf
      refine lv_aload_n hx hb dX3_levels_34 rfl (lv_at hl 0 rfl) ?_
      refine gf_X3_24 C0 hP 0 wdX_0 rfl dX3_levels_35 ?_
      refine gf_X3_101 C0 hP 19 wdX_19 rfl dX3_levels_38 ?_
      refine lv_iload_n hx hb dX3_levels_41 rfl (lv_at hl 1 rfl) ?_
      refine lv_iload_n hx hb dX3_levels_42 rfl (lv_at hl 3 rfl) ?_
      obtain ⟨h7, hf⟩ := zq_in_s hf
      obtain ⟨t8, et8, hf⟩ := zq_lt_s hf
      refine zis (ws' := (wdX ad cy o s n t8 r w)) C0 hP hD hS 24 wdX_24 h7 (by rw [et8]; rfl) dX3_levels_43 (fun H locs hP hD hS => ?_)
      refine lv_aload_n hx hb dX3_levels_44 rfl (lv_at hl 0 rfl) ?_
      refine gf_X3_30 C0 hP 0 wdX_0 rfl dX3_levels_45 ?_
      refine lv_aload_n hx hb dX3_levels_48 rfl (lv_at hl 0 rfl) ?_
      refine gf_X3_24 C0 hP 0 wdX_0 rfl dX3_levels_49 ?_
      obtain ⟨r10, hc9, hf⟩ := zq_b1_s hf
      refine zVI (ws' := (wdX ad cy o s n t8 r w)) (rest := []) C0 (fun _ h => h) fX_rt (c_X0_holdFor (ad := fun j => ad (28 + j)) (a2 := fun j => ad (19 + j)) hc9) hP hD hS my_X0_holdFor kl_X3_190 ⟨rfl, rfl⟩ ⟨Nat.le_of_ble_eq_true rfl, Nat.le_of_ble_eq_true rfl⟩ (q0 := 28) (ci := 0) rfl wdX_28 rfl hl.1 rfl (Nat.le_of_ble_eq_true rfl) dX3_levels_52 ⟨Nat.zero_le _, Nat.zero_le _⟩ (fun H locs hP hD hS => ?_)
      refine lv_if_eq (tgt := 64) hx hb dX3_levels_55 (by decide) (fun c11 => ?_) (fun c11 => ?_)
      · have hf := it_t c11 hf
        refine lv_iinc (v := (x3 + 1)) (lv' := [(3, .int (x3 + 1)), (0, .ref (ad 0)), (1, .int x1), (2, .int x2)]) hx hb dX3_levels_64 hl (k := 3) rfl rfl (by decide) rfl (fun ls hl => ?_)
        refine lv_goto (tgt := 28) hx hb dX3_levels_67 (by decide) ?_
        exact ih x2 (x3 + 1) t8 hf _ _ _ hP hD hS (lv_sub hl [1, 2, 3, 0] rfl)
      · have hf := it_f c11 hf
        refine lv_iload_n hx hb dX3_levels_58 rfl (lv_at hl 2 rfl) ?_
        refine lv_iconst (v := 1) hx hb dX3_levels_59 (by decide) ?_
        refine lv_iload_n hx hb dX3_levels_60 rfl (lv_at hl 3 rfl) ?_
        refine lv_ishl hx hb dX3_levels_61 ?_
        refine lv_ior hx hb dX3_levels_62 ?_
        refine lv_istore_n (lv' := [(2, .int (x2 ||| (1 <<< (x3 &&& 31)))), (0, .ref (ad 0)), (1, .int x1), (3, .int x3)]) hx hb dX3_levels_63 rfl hl (by decide) rfl (fun ls hl => ?_)
        refine lv_iinc (v := (x3 + 1)) (lv' := [(3, .int (x3 + 1)), (2, .int (x2 ||| (1 <<< (x3 &&& 31)))), (0, .ref (ad 0)), (1, .int x1)]) hx hb dX3_levels_64 hl (k := 3) rfl rfl (by decide) rfl (fun ls hl => ?_)
        refine lv_goto (tgt := 28) hx hb dX3_levels_67 (by decide) ?_
        exact ih (x2 ||| (1 <<< (x3 &&& 31))) (x3 + 1) t8 hf _ _ _ hP hD hS (lv_sub hl [2, 3, 1, 0] rfl)
set_option maxHeartbeats 4000000 in
set_option maxRecDepth 100000 in
theorem c_X3_levels {l : Launch} {D : va_G} {ad : Nat → Nat} {cy : Nat → ClassId} {o : zS} {s : zS4} {n : zS} {t : zS} {r : zS} {w : zJ} {x1 : Int32} {r0 : Int32} {t' : zS} (hf : f_X3_levels n t r x1 = some (r0, t')) : zMI l yX3_levels (zW yX3_levels cX3_levels 4 (some .int)) { frames := 4, cells := 0, slots := 0, locals := 88 } D cy [.ref (ad 0), .int x1] (wdX ad cy o s n t r w) r0 (wdX ad cy o s n t' r w) := by
  unfold f_X3_levels at hf
  refine zEI (ty := .int) (by decide) (Nat.le_of_ble_eq_true rfl) ?_
  intro p e s9 m9 below meth c A Q C0 hret ls hl hP hD
  have hl : lv_has ls 4 [(0, .ref (ad 0)), (1, .int x1)] := hl
  have hS : va_S A s9.heap s9.heap [] := va_S.rf
  obtain ⟨hx, hb, hml, hown, hts⟩ := id C0.1
  refine lv_aload_n hx hb dX3_levels_0 rfl (lv_at hl 0 rfl) ?_
  refine gf_X3_20 C0 hP 0 wdX_0 rfl dX3_levels_1 ?_
  refine lv_iload_n hx hb dX3_levels_4 rfl (lv_at hl 1 rfl) ?_
  obtain ⟨r2, hc1, hf⟩ := zq_b1_s hf
  refine zVI (ws' := (wdX ad cy o s n t r w)) (rest := []) C0 (fun _ h => h) fX_n (c_X2_hasLamp (ad := fun j => ad (10 + j)) hc1) hP hD hS my_X2_hasLamp kl_X3_95 ⟨rfl, rfl⟩ ⟨Nat.le_of_ble_eq_true rfl, Nat.le_of_ble_eq_true rfl⟩ (q0 := 10) (ci := 2) rfl wdX_10 rfl hl.1 rfl (Nat.le_of_ble_eq_true rfl) dX3_levels_5 ⟨Nat.zero_le _, Nat.zero_le _⟩ (fun H locs hP hD hS => ?_)
  refine lv_if_ne (tgt := 13) hx hb dX3_levels_8 (by decide) (fun c3 => ?_) (fun c3 => ?_)
  · have hf := it_f c3 hf
    refine lv_aload_n hx hb dX3_levels_13 rfl (lv_at hl 0 rfl) ?_
    refine gf_X3_24 C0 hP 0 wdX_0 rfl dX3_levels_14 ?_
    refine lv_aload_n hx hb dX3_levels_17 rfl (lv_at hl 0 rfl) ?_
    refine gf_X3_20 C0 hP 0 wdX_0 rfl dX3_levels_18 ?_
    obtain ⟨t5, hc4, hf⟩ := zq_b1_s hf
    refine zVV (ws' := (wdX ad cy o s n t5 r w)) (rest := []) C0 (fun _ h => h) fX_tn (c_X2_becomeLike (ad := fun j => ad (19 + j)) (a2 := fun j => ad (10 + j)) hc4) hP hD hS my_X2_becomeLike kl_X3_65 ⟨rfl, rfl⟩ ⟨Nat.le_of_ble_eq_true rfl, Nat.le_of_ble_eq_true rfl⟩ (q0 := 19) (ci := 2) rfl wdX_19 rfl hl.1 rfl (Nat.le_of_ble_eq_true rfl) dX3_levels_21 ⟨Nat.zero_le _, Nat.zero_le _⟩ (fun H locs hP hD hS => ?_)
    refine lv_iconst (v := 0) hx hb dX3_levels_24 (by decide) ?_
    refine lv_istore_n (lv' := [(2, .int 0), (0, .ref (ad 0)), (1, .int x1)]) hx hb dX3_levels_25 rfl hl (by decide) rfl (fun ls hl => ?_)
    refine lv_iconst (v := 0) hx hb dX3_levels_26 (by decide) ?_
    refine lv_istore_n (lv' := [(3, .int 0), (2, .int 0), (0, .ref (ad 0)), (1, .int x1)]) hx hb dX3_levels_27 rfl hl (by decide) rfl (fun ls hl => ?_)
    obtain ⟨y13, t14, hL12, hf⟩ := zq_b2_s hf
    refine w_X3_levels_L28 C0 (fun H locs ls hP hD hS hl => ?_) 100 0 0 t5 hL12 _ _ _ hP hD hS (lv_sub hl [2, 3, 1, 0] rfl)
    refine lv_iload_n hx hb dX3_levels_70 rfl (lv_at hl 0 rfl) ?_
    obtain ⟨rfl, rfl⟩ := zq_j2 hf
    exact hret _ _ _ _ rfl dX3_levels_71 hP hD hS
  · have hf := it_t c3 hf
    refine lv_iconst (v := (-1)) hx hb dX3_levels_11 (by decide) ?_
    obtain ⟨rfl, rfl⟩ := zq_j2 hf
    exact hret _ _ _ _ rfl dX3_levels_12 hP hD hS

def f_X3_cuts_L28 (r : zS) : Nat → Int32 → Int32 → zS → Option (Int32 × zS)
  | 0, _, _, _ => none
  | q9 + 1, x1, x2, t =>
  if 8 < x2 then (
  some (x1, t)) else (
  zq_b1 (f_X2_layFrame t x2) (fun t8 =>
  zq_b1 (f_X0_holdFor r t8) (fun r10 =>
  if r10 = 0 then (
  f_X3_cuts_L28 r q9 x1 (x2 + 1) t8) else (
  f_X3_cuts_L28 r q9 (x1 ||| (1 <<< (x2 &&& 31))) (x2 + 1) t8))))
def f_X3_cuts (n : zS) (t : zS) (r : zS)  : Option (Int32 × zS) :=
  zq_b1 (f_X2_stands n) (fun r2 =>
  if r2 = 0 then (
  some ((-3), t)) else (
  zq_b1 (f_X2_becomeLike t n) (fun t5 =>
  zq_b2 (f_X3_cuts_L28 r 100 0 1 t5) (fun y13 t14 =>
  some (y13, t14)))))
set_option maxHeartbeats 4000000 in
set_option maxRecDepth 100000 in
theorem w_X3_cuts_L28 {l : Launch} {p : Program} {e : Env} {s9 : State} {m9 : MethodId} {ag : Array Value} {below : List Frame} {meth : Method} {c : Code} {A : Nat → Prop} {Q : State → Prop} {D : va_G} {ad : Nat → Nat} {cy : Nat → ClassId} {o : zS} {s : zS4} {n : zS} {r : zS} {w : zJ} (C0 : zCx p s9 m9 ag c cX3_cuts 3 RX3 D cy A)  {o1 : Int32} {to : zS} (e0 : ∀ (H : Heap) (locs : List Loc) (ls : Array Slot), va_P D vwCl (wdX ad cy o s n to r w) H → va_D A (wdX ad cy o s n to r w) → va_S A s9.heap H locs → lv_has ls 3 [(1, .int o1)] → W p l e { frames := 4, cells := 0, slots := 0, locals := 88 } s9 m9 ag below meth c H locs 0 0 Q (F0 m9 68 ls [])) : ∀ (q9 : Nat) (x1 : Int32) (x2 : Int32) (t : zS), f_X3_cuts_L28 r q9 x1 x2 t = some (o1, to) → ∀ (H : Heap) (locs : List Loc) (ls : Array Slot), va_P D vwCl (wdX ad cy o s n t r w) H → va_D A (wdX ad cy o s n t r w) → va_S A s9.heap H locs → lv_has ls 3 [(0, .ref (ad 0)), (1, .int x1), (2, .int x2)] → W p l e { frames := 4, cells := 0, slots := 0, locals := 88 } s9 m9 ag below meth c H locs 0 0 Q (F0 m9 28 ls []) := by
  obtain ⟨hx, hb, hml, hown, hts⟩ := id C0.1
  intro q9
  induction q9 with
  | zero =>
    intro x1 x2 t hf
    rw [f_X3_cuts_L28] at hf
    cases hf
  | succ q9 ih =>
    intro x1 x2 t hf H locs ls hP hD hS hl
    rw [f_X3_cuts_L28] at hf
    refine lv_iload_n hx hb dX3_cuts_28 rfl (lv_at hl 2 rfl) ?_
    refine lv_bipush (v := 8) hx hb dX3_cuts_29 (by decide) ?_
    refine lv_icmp_gt (tgt := 68) hx hb dX3_cuts_31 (by decide) (fun c6 => ?_) (fun c6 => ?_)
    · have hf := it_t c6 hf
      obtain ⟨rfl, rfl⟩ := zq_j2 hf
      exact e0 _ _ _ hP hD hS (lv_sub hl [1] rfl)
    · have hf := it_f c6 hf
      refine lv_aload_n hx hb dX3_cuts_34 rfl (lv_at hl 0 rfl) ?_
      refine gf_X3_24 C0 hP 0 wdX_0 rfl dX3_cuts_35 ?_
      refine lv_iload_n hx hb dX3_cuts_38 rfl (lv_at hl 2 rfl) ?_
      obtain ⟨t8, hc7, hf⟩ := zq_b1_s hf
      refine zVV (ws' := (wdX ad cy o s n t8 r w)) (rest := []) C0 (fun _ h => h) fX_t (c_X2_layFrame (ad := fun j => ad (19 + j)) hc7) hP hD hS my_X2_layFrame kl_X3_132 ⟨rfl, rfl⟩ ⟨Nat.le_of_ble_eq_true rfl, Nat.le_of_ble_eq_true rfl⟩ (q0 := 19) (ci := 2) rfl wdX_19 rfl hl.1 rfl (Nat.le_of_ble_eq_true rfl) dX3_cuts_39 ⟨Nat.zero_le _, Nat.zero_le _⟩ (fun H locs hP hD hS => ?_)
      refine lv_aload_n hx hb dX3_cuts_42 rfl (lv_at hl 0 rfl) ?_
      refine gf_X3_30 C0 hP 0 wdX_0 rfl dX3_cuts_43 ?_
      refine lv_aload_n hx hb dX3_cuts_46 rfl (lv_at hl 0 rfl) ?_
      refine gf_X3_24 C0 hP 0 wdX_0 rfl dX3_cuts_47 ?_
      obtain ⟨r10, hc9, hf⟩ := zq_b1_s hf
      refine zVI (ws' := (wdX ad cy o s n t8 r w)) (rest := []) C0 (fun _ h => h) fX_rt (c_X0_holdFor (ad := fun j => ad (28 + j)) (a2 := fun j => ad (19 + j)) hc9) hP hD hS my_X0_holdFor kl_X3_190 ⟨rfl, rfl⟩ ⟨Nat.le_of_ble_eq_true rfl, Nat.le_of_ble_eq_true rfl⟩ (q0 := 28) (ci := 0) rfl wdX_28 rfl hl.1 rfl (Nat.le_of_ble_eq_true rfl) dX3_cuts_50 ⟨Nat.zero_le _, Nat.zero_le _⟩ (fun H locs hP hD hS => ?_)
      refine lv_if_eq (tgt := 62) hx hb dX3_cuts_53 (by decide) (fun c11 => ?_) (fun c11 => ?_)
      · have hf := it_t c11 hf
        refine lv_iinc (v := (x2 + 1)) (lv' := [(2, .int (x2 + 1)), (0, .ref (ad 0)), (1, .int x1)]) hx hb dX3_cuts_62 hl (k := 2) rfl rfl (by decide) rfl (fun ls hl => ?_)
        refine lv_goto (tgt := 28) hx hb dX3_cuts_65 (by decide) ?_
        exact ih x1 (x2 + 1) t8 hf _ _ _ hP hD hS (lv_sub hl [1, 2, 0] rfl)
      · have hf := it_f c11 hf
        refine lv_iload_n hx hb dX3_cuts_56 rfl (lv_at hl 1 rfl) ?_
        refine lv_iconst (v := 1) hx hb dX3_cuts_57 (by decide) ?_
        refine lv_iload_n hx hb dX3_cuts_58 rfl (lv_at hl 2 rfl) ?_
        refine lv_ishl hx hb dX3_cuts_59 ?_
        refine lv_ior hx hb dX3_cuts_60 ?_
        refine lv_istore_n (lv' := [(1, .int (x1 ||| (1 <<< (x2 &&& 31)))), (0, .ref (ad 0)), (2, .int x2)]) hx hb dX3_cuts_61 rfl hl (by decide) rfl (fun ls hl => ?_)
        refine lv_iinc (v := (x2 + 1)) (lv' := [(2, .int (x2 + 1)), (1, .int (x1 ||| (1 <<< (x2 &&& 31)))), (0, .ref (ad 0))]) hx hb dX3_cuts_62 hl (k := 2) rfl rfl (by decide) rfl (fun ls hl => ?_)
        refine lv_goto (tgt := 28) hx hb dX3_cuts_65 (by decide) ?_
        exact ih (x1 ||| (1 <<< (x2 &&& 31))) (x2 + 1) t8 hf _ _ _ hP hD hS (lv_sub hl [2, 1, 0] rfl)
set_option maxHeartbeats 4000000 in
set_option maxRecDepth 100000 in
theorem c_X3_cuts {l : Launch} {D : va_G} {ad : Nat → Nat} {cy : Nat → ClassId} {o : zS} {s : zS4} {n : zS} {t : zS} {r : zS} {w : zJ}  {r0 : Int32} {t' : zS} (hf : f_X3_cuts n t r = some (r0, t')) : zMI l yX3_cuts (zW yX3_cuts cX3_cuts 3 (some .int)) { frames := 4, cells := 0, slots := 0, locals := 88 } D cy [.ref (ad 0)] (wdX ad cy o s n t r w) r0 (wdX ad cy o s n t' r w) := by
  unfold f_X3_cuts at hf
  refine zEI (ty := .int) (by decide) (Nat.le_of_ble_eq_true rfl) ?_
  intro p e s9 m9 below meth c A Q C0 hret ls hl hP hD
  have hl : lv_has ls 3 [(0, .ref (ad 0))] := hl
  have hS : va_S A s9.heap s9.heap [] := va_S.rf
  obtain ⟨hx, hb, hml, hown, hts⟩ := id C0.1
  refine lv_aload_n hx hb dX3_cuts_0 rfl (lv_at hl 0 rfl) ?_
  refine gf_X3_20 C0 hP 0 wdX_0 rfl dX3_cuts_1 ?_
  obtain ⟨r2, hc1, hf⟩ := zq_b1_s hf
  refine zVI (ws' := (wdX ad cy o s n t r w)) (rest := []) C0 (fun _ h => h) fX_n (c_X2_stands (ad := fun j => ad (10 + j)) hc1) hP hD hS my_X2_stands kl_X3_125 ⟨rfl, rfl⟩ ⟨Nat.le_of_ble_eq_true rfl, Nat.le_of_ble_eq_true rfl⟩ (q0 := 10) (ci := 2) rfl wdX_10 rfl hl.1 rfl (Nat.le_of_ble_eq_true rfl) dX3_cuts_4 ⟨Nat.zero_le _, Nat.zero_le _⟩ (fun H locs hP hD hS => ?_)
  refine lv_if_ne (tgt := 13) hx hb dX3_cuts_7 (by decide) (fun c3 => ?_) (fun c3 => ?_)
  · have hf := it_f c3 hf
    refine lv_aload_n hx hb dX3_cuts_13 rfl (lv_at hl 0 rfl) ?_
    refine gf_X3_24 C0 hP 0 wdX_0 rfl dX3_cuts_14 ?_
    refine lv_aload_n hx hb dX3_cuts_17 rfl (lv_at hl 0 rfl) ?_
    refine gf_X3_20 C0 hP 0 wdX_0 rfl dX3_cuts_18 ?_
    obtain ⟨t5, hc4, hf⟩ := zq_b1_s hf
    refine zVV (ws' := (wdX ad cy o s n t5 r w)) (rest := []) C0 (fun _ h => h) fX_tn (c_X2_becomeLike (ad := fun j => ad (19 + j)) (a2 := fun j => ad (10 + j)) hc4) hP hD hS my_X2_becomeLike kl_X3_65 ⟨rfl, rfl⟩ ⟨Nat.le_of_ble_eq_true rfl, Nat.le_of_ble_eq_true rfl⟩ (q0 := 19) (ci := 2) rfl wdX_19 rfl hl.1 rfl (Nat.le_of_ble_eq_true rfl) dX3_cuts_21 ⟨Nat.zero_le _, Nat.zero_le _⟩ (fun H locs hP hD hS => ?_)
    refine lv_iconst (v := 0) hx hb dX3_cuts_24 (by decide) ?_
    refine lv_istore_n (lv' := [(1, .int 0), (0, .ref (ad 0))]) hx hb dX3_cuts_25 rfl hl (by decide) rfl (fun ls hl => ?_)
    refine lv_iconst (v := 1) hx hb dX3_cuts_26 (by decide) ?_
    refine lv_istore_n (lv' := [(2, .int 1), (1, .int 0), (0, .ref (ad 0))]) hx hb dX3_cuts_27 rfl hl (by decide) rfl (fun ls hl => ?_)
    obtain ⟨y13, t14, hL12, hf⟩ := zq_b2_s hf
    refine w_X3_cuts_L28 C0 (fun H locs ls hP hD hS hl => ?_) 100 0 1 t5 hL12 _ _ _ hP hD hS (lv_sub hl [2, 1, 0] rfl)
    refine lv_iload_n hx hb dX3_cuts_68 rfl (lv_at hl 0 rfl) ?_
    obtain ⟨rfl, rfl⟩ := zq_j2 hf
    exact hret _ _ _ _ rfl dX3_cuts_69 hP hD hS
  · have hf := it_t c3 hf
    refine lv_bipush (v := (-3)) hx hb dX3_cuts_10 (by decide) ?_
    obtain ⟨rfl, rfl⟩ := zq_j2 hf
    exact hret _ _ _ _ rfl dX3_cuts_12 hP hD hS

def f_J7_fill_d0a16_L6 (ln : Nat) (x1 : Int64) (x4 : Int32) : Nat → Int32 → zJ → Option (zJ)
  | 0, _, _ => none
  | q9 + 1, x3, f =>
  if x4 ≤ x3 then (
  some f) else (
  zq_in ln x3 (zq_lt (vp_updL f (Int32.toNatClampNeg x3) x1) (fun f3 =>
  f_J7_fill_d0a16_L6 ln x1 x4 q9 (x3 + 1) f3)))
def f_J7_fill_d0a16 (ln : Nat) (f : zJ) (x1 : Int64) : Option (zJ) :=
  zq_b1 (f_J7_fill_d0a16_L6 ln x1 (Int32.ofNat ln) 100 0 f) (fun f5 =>
  some f5)
set_option maxHeartbeats 4000000 in
set_option maxRecDepth 100000 in
theorem w_J7_fill_d0a16_L6 {l : Launch} {p : Program} {e : Env} {s9 : State} {m9 : MethodId} {ag : Array Value} {below : List Frame} {meth : Method} {c : Code} {A : Nat → Prop} {Q : State → Prop} {D : va_G} {ad : Nat} {cy : Nat → ClassId} {ln : Nat} {x1 : Int64} {x4 : Int32} (C0 : zCx p s9 m9 ag c cJ7_fill_d0a16 5 RJ7 D cy A)  {fo : zJ} (e0 : ∀ (H : Heap) (locs : List Loc) (ls : Array Slot), va_P D vwCl (wdAJ ad cy ln fo) H → va_D A (wdAJ ad cy ln fo) → va_S A s9.heap H locs → lv_has ls 5 [] → W p l e { frames := 0, cells := 0, slots := 0, locals := 0 } s9 m9 ag below meth c H locs 0 0 Q (F0 m9 22 ls [])) : ∀ (q9 : Nat) (x3 : Int32) (f : zJ), f_J7_fill_d0a16_L6 ln x1 x4 q9 x3 f = some fo → ∀ (H : Heap) (locs : List Loc) (ls : Array Slot), va_P D vwCl (wdAJ ad cy ln f) H → va_D A (wdAJ ad cy ln f) → va_S A s9.heap H locs → lv_has ls 5 [(0, .ref ad), (1, .long x1), (3, .int x3), (4, .int x4)] → W p l e { frames := 0, cells := 0, slots := 0, locals := 0 } s9 m9 ag below meth c H locs 0 0 Q (F0 m9 6 ls []) := by
  obtain ⟨hx, hb, hml, hown, hts⟩ := id C0.1
  intro q9
  induction q9 with
  | zero =>
    intro x3 f hf
    rw [f_J7_fill_d0a16_L6] at hf
    cases hf
  | succ q9 ih =>
    intro x3 f hf H locs ls hP hD hS hl
    rw [f_J7_fill_d0a16_L6] at hf
    refine lv_iload_n hx hb dJ7_fill_d0a16_6 rfl (lv_at hl 2 rfl) ?_
    refine lv_iload hx hb dJ7_fill_d0a16_7 (lv_at hl 3 rfl) ?_
    refine lv_icmp_ge (tgt := 22) hx hb dJ7_fill_d0a16_9 (by decide) (fun c1 => ?_) (fun c1 => ?_)
    · have hf := it_t c1 hf
      obtain rfl := Option.some.inj hf
      exact e0 _ _ _ hP hD hS (lv_sub hl [] rfl)
    · have hf := it_f c1 hf
      refine lv_aload_n hx hb dJ7_fill_d0a16_12 rfl (lv_at hl 0 rfl) ?_
      refine lv_iload_n hx hb dJ7_fill_d0a16_13 rfl (lv_at hl 2 rfl) ?_
      refine lv_lload_n hx hb dJ7_fill_d0a16_14 rfl (lv_at hl 1 rfl) ?_
      obtain ⟨h2, hf⟩ := zq_in_s hf
      obtain ⟨f3, ef3, hf⟩ := zq_lt_s hf
      refine zls (ws' := (wdAJ ad cy ln f3)) C0 hP hD hS 0 wdAJ_0 h2 (by rw [ef3]; rfl) dJ7_fill_d0a16_15 (fun H locs hP hD hS => ?_)
      refine lv_iinc (v := (x3 + 1)) (lv' := [(3, .int (x3 + 1)), (0, .ref ad), (1, .long x1), (4, .int x4)]) hx hb dJ7_fill_d0a16_16 hl (k := 2) rfl rfl (by decide) rfl (fun ls hl => ?_)
      refine lv_goto (tgt := 6) hx hb dJ7_fill_d0a16_19 (by decide) ?_
      exact ih (x3 + 1) f3 hf _ _ _ hP hD hS (lv_sub hl [1, 2, 0, 3] rfl)
set_option maxHeartbeats 4000000 in
set_option maxRecDepth 100000 in
theorem c_J7_fill_d0a16 {l : Launch} {D : va_G} {ad : Nat} {cy : Nat → ClassId} {ln : Nat} {f : zJ} {x1 : Int64} {f' : zJ} (hf : f_J7_fill_d0a16 ln f x1 = some f') : zMV l yJ7_fill_d0a16 (zW yJ7_fill_d0a16 cJ7_fill_d0a16 5 none) { frames := 0, cells := 0, slots := 0, locals := 0 } D cy [.ref ad, .long x1] (wdAJ ad cy ln f) (wdAJ ad cy ln f') := by
  unfold f_J7_fill_d0a16 at hf
  refine zEV (by decide) (Nat.le_of_ble_eq_true rfl) ?_
  intro p e s9 m9 below meth c A Q C0 hret ls hl hP hD
  have hl : lv_has ls 5 [(0, .ref ad), (1, .long x1)] := hl
  have hS : va_S A s9.heap s9.heap [] := va_S.rf
  obtain ⟨hx, hb, hml, hown, hts⟩ := id C0.1
  refine lv_iconst (v := 0) hx hb dJ7_fill_d0a16_0 (by decide) ?_
  refine lv_istore_n (lv' := [(3, .int 0), (0, .ref ad), (1, .long x1)]) hx hb dJ7_fill_d0a16_1 rfl hl (by decide) rfl (fun ls hl => ?_)
  refine lv_aload_n hx hb dJ7_fill_d0a16_2 rfl (lv_at hl 1 rfl) ?_
  refine zalenL C0 hP 0 wdAJ_0 dJ7_fill_d0a16_3 ?_
  refine lv_istore (lv' := [(4, .int (Int32.ofNat ln)), (3, .int 0), (0, .ref ad), (1, .long x1)]) hx hb dJ7_fill_d0a16_4 hl (by decide) rfl (fun ls hl => ?_)
  obtain ⟨f5, hL4, hf⟩ := zq_b1_s hf
  refine w_J7_fill_d0a16_L6 C0 (fun H locs ls hP hD hS hl => ?_) 100 0 f hL4 _ _ _ hP hD hS (lv_sub hl [2, 3, 1, 0] rfl)
  obtain rfl := Option.some.inj hf
  exact hret _ _ _ _ dJ7_fill_d0a16_22 hP hD hS

def f_X3_levelsThatLight_L4 (x0 : Int32) (x1 : Int32) : Nat → Int32 → Int32 → Option (Int32)
  | 0, _, _ => none
  | q9 + 1, x2, x3 =>
  if 9 < x3 then (
  some x2) else (
  zq_b1 (f_X3_lightBy x0 x3) (fun r3 =>
  zq_b1 (f_X3_hasBit r3 x1) (fun r5 =>
  if r5 = 0 then (
  f_X3_levelsThatLight_L4 x0 x1 q9 (x2 + 0) (x3 + 1)) else (
  f_X3_levelsThatLight_L4 x0 x1 q9 (x2 + 1) (x3 + 1)))))
def f_X3_levelsThatLight  (x0 : Int32) (x1 : Int32) : Option (Int32) :=
  zq_b1 (f_X3_levelsThatLight_L4 x0 x1 100 0 0) (fun y8 =>
  some y8)
set_option maxHeartbeats 4000000 in
set_option maxRecDepth 100000 in
theorem w_X3_levelsThatLight_L4 {l : Launch} {p : Program} {e : Env} {s9 : State} {m9 : MethodId} {ag : Array Value} {below : List Frame} {meth : Method} {c : Code} {A : Nat → Prop} {Q : State → Prop} {D : va_G} {cy : Nat → ClassId}  {x0 : Int32} {x1 : Int32} (C0 : zCx p s9 m9 ag c cX3_levelsThatLight 4 RX3 D cy A)  {o2 : Int32} (e0 : ∀ (H : Heap) (locs : List Loc) (ls : Array Slot), va_P D vwCl [] H → va_D A [] → va_S A s9.heap H locs → lv_has ls 4 [(2, .int o2)] → W p l e { frames := 1, cells := 0, slots := 0, locals := 22 } s9 m9 ag below meth c H locs 0 0 Q (F0 m9 36 ls [])) : ∀ (q9 : Nat) (x2 : Int32) (x3 : Int32), f_X3_levelsThatLight_L4 x0 x1 q9 x2 x3 = some o2 → ∀ (H : Heap) (locs : List Loc) (ls : Array Slot), va_P D vwCl [] H → va_D A [] → va_S A s9.heap H locs → lv_has ls 4 [(0, .int x0), (1, .int x1), (2, .int x2), (3, .int x3)] → W p l e { frames := 1, cells := 0, slots := 0, locals := 22 } s9 m9 ag below meth c H locs 0 0 Q (F0 m9 4 ls []) := by
  obtain ⟨hx, hb, hml, hown, hts⟩ := id C0.1
  intro q9
  induction q9 with
  | zero =>
    intro x2 x3 hf
    rw [f_X3_levelsThatLight_L4] at hf
    cases hf
  | succ q9 ih =>
    intro x2 x3 hf H locs ls hP hD hS hl
    rw [f_X3_levelsThatLight_L4] at hf
    refine lv_iload_n hx hb dX3_levelsThatLight_4 rfl (lv_at hl 3 rfl) ?_
    refine lv_bipush (v := 9) hx hb dX3_levelsThatLight_5 (by decide) ?_
    refine lv_icmp_gt (tgt := 36) hx hb dX3_levelsThatLight_7 (by decide) (fun c1 => ?_) (fun c1 => ?_)
    · have hf := it_t c1 hf
      obtain rfl := Option.some.inj hf
      exact e0 _ _ _ hP hD hS (lv_sub hl [2] rfl)
    · have hf := it_f c1 hf
      refine lv_iload_n hx hb dX3_levelsThatLight_10 rfl (lv_at hl 2 rfl) ?_
      refine lv_iload_n hx hb dX3_levelsThatLight_11 rfl (lv_at hl 0 rfl) ?_
      refine lv_iload_n hx hb dX3_levelsThatLight_12 rfl (lv_at hl 3 rfl) ?_
      obtain ⟨r3, hc2, hf⟩ := zq_b1_s hf
      refine zSI (ws' := []) (rest := [.int x2]) C0 (fun _ h => h) zF.nil (c_X3_lightBy hc2) hP hD hS my_X3_lightBy kl_X3_266 ⟨rfl, rfl⟩ ⟨Nat.le_of_ble_eq_true rfl, Nat.le_of_ble_eq_true rfl⟩ rfl hl.1 rfl (Nat.le_of_ble_eq_true rfl) dX3_levelsThatLight_13 ⟨Nat.zero_le _, Nat.zero_le _⟩ (fun H locs hP hD hS => ?_)
      refine lv_iload_n hx hb dX3_levelsThatLight_16 rfl (lv_at hl 1 rfl) ?_
      obtain ⟨r5, hc4, hf⟩ := zq_b1_s hf
      refine zSI (ws' := []) (rest := [.int x2]) C0 (fun _ h => h) zF.nil (c_X3_hasBit hc4) hP hD hS my_X3_hasBit kl_X3_269 ⟨rfl, rfl⟩ ⟨Nat.le_of_ble_eq_true rfl, Nat.le_of_ble_eq_true rfl⟩ rfl hl.1 rfl (Nat.le_of_ble_eq_true rfl) dX3_levelsThatLight_17 ⟨Nat.zero_le _, Nat.zero_le _⟩ (fun H locs hP hD hS => ?_)
      refine lv_if_eq (tgt := 27) hx hb dX3_levelsThatLight_20 (by decide) (fun c6 => ?_) (fun c6 => ?_)
      · have hf := it_t c6 hf
        refine lv_iconst (v := 0) hx hb dX3_levelsThatLight_27 (by decide) ?_
        refine lv_iadd hx hb dX3_levelsThatLight_28 ?_
        refine lv_istore_n (lv' := [(2, .int (x2 + 0)), (0, .int x0), (1, .int x1), (3, .int x3)]) hx hb dX3_levelsThatLight_29 rfl hl (by decide) rfl (fun ls hl => ?_)
        refine lv_iinc (v := (x3 + 1)) (lv' := [(3, .int (x3 + 1)), (2, .int (x2 + 0)), (0, .int x0), (1, .int x1)]) hx hb dX3_levelsThatLight_30 hl (k := 3) rfl rfl (by decide) rfl (fun ls hl => ?_)
        refine lv_goto (tgt := 4) hx hb dX3_levelsThatLight_33 (by decide) ?_
        exact ih (x2 + 0) (x3 + 1) hf _ _ _ hP hD hS (lv_sub hl [2, 3, 1, 0] rfl)
      · have hf := it_f c6 hf
        refine lv_iconst (v := 1) hx hb dX3_levelsThatLight_23 (by decide) ?_
        refine lv_goto (tgt := 28) hx hb dX3_levelsThatLight_24 (by decide) ?_
        refine lv_iadd hx hb dX3_levelsThatLight_28 ?_
        refine lv_istore_n (lv' := [(2, .int (x2 + 1)), (0, .int x0), (1, .int x1), (3, .int x3)]) hx hb dX3_levelsThatLight_29 rfl hl (by decide) rfl (fun ls hl => ?_)
        refine lv_iinc (v := (x3 + 1)) (lv' := [(3, .int (x3 + 1)), (2, .int (x2 + 1)), (0, .int x0), (1, .int x1)]) hx hb dX3_levelsThatLight_30 hl (k := 3) rfl rfl (by decide) rfl (fun ls hl => ?_)
        refine lv_goto (tgt := 4) hx hb dX3_levelsThatLight_33 (by decide) ?_
        exact ih (x2 + 1) (x3 + 1) hf _ _ _ hP hD hS (lv_sub hl [2, 3, 1, 0] rfl)
set_option maxHeartbeats 4000000 in
set_option maxRecDepth 100000 in
theorem c_X3_levelsThatLight {l : Launch} {D : va_G} {cy : Nat → ClassId}   {x0 : Int32} {x1 : Int32} {r0 : Int32} (hf : f_X3_levelsThatLight x0 x1 = some r0) : zMI l yX3_levelsThatLight (zW yX3_levelsThatLight cX3_levelsThatLight 4 (some .int)) { frames := 1, cells := 0, slots := 0, locals := 22 } D cy [.int x0, .int x1] [] r0 [] := by
  unfold f_X3_levelsThatLight at hf
  refine zEI (ty := .int) (by decide) (Nat.le_of_ble_eq_true rfl) ?_
  intro p e s9 m9 below meth c A Q C0 hret ls hl hP hD
  have hl : lv_has ls 4 [(0, .int x0), (1, .int x1)] := hl
  have hS : va_S A s9.heap s9.heap [] := va_S.rf
  obtain ⟨hx, hb, hml, hown, hts⟩ := id C0.1
  refine lv_iconst (v := 0) hx hb dX3_levelsThatLight_0 (by decide) ?_
  refine lv_istore_n (lv' := [(2, .int 0), (0, .int x0), (1, .int x1)]) hx hb dX3_levelsThatLight_1 rfl hl (by decide) rfl (fun ls hl => ?_)
  refine lv_iconst (v := 0) hx hb dX3_levelsThatLight_2 (by decide) ?_
  refine lv_istore_n (lv' := [(3, .int 0), (2, .int 0), (0, .int x0), (1, .int x1)]) hx hb dX3_levelsThatLight_3 rfl hl (by decide) rfl (fun ls hl => ?_)
  obtain ⟨y8, hL7, hf⟩ := zq_b1_s hf
  refine w_X3_levelsThatLight_L4 C0 (fun H locs ls hP hD hS hl => ?_) 100 0 0 hL7 _ _ _ hP hD hS (lv_sub hl [2, 3, 1, 0] rfl)
  refine lv_iload_n hx hb dX3_levelsThatLight_36 rfl (lv_at hl 0 rfl) ?_
  obtain rfl := Option.some.inj hf
  exact hret _ _ _ _ rfl dX3_levelsThatLight_37 hP hD hS

def f_X3_addLampToWays_L8 (x1 : Int32) (x2 : Int32) : Nat → Int32 → zJ → Option (zJ)
  | 0, _, _ => none
  | q9 + 1, x3, w =>
  if x3 ≤ 0 then (
  some w) else (
  zq_rd w 17 x3 (fun v2 =>
  zq_rd w 17 (x3 - 1) (fun v4 =>
  zq_in 17 x3 (zq_lt (vp_updL w (Int32.toNatClampNeg x3) ((v2 * (Int32.toInt64 x2)) + (v4 * (Int32.toInt64 x1)))) (fun w7 =>
  f_X3_addLampToWays_L8 x1 x2 q9 (x3 + (-1)) w7)))))
def f_X3_addLampToWays (w : zJ) (x1 : Int32) : Option (zJ) :=
  zq_b1 (f_X3_addLampToWays_L8 x1 (10 - x1) 100 16 w) (fun w9 =>
  zq_rd w9 17 0 (fun v10 =>
  zq_in 17 0 (zq_lt (vp_updL w9 (Int32.toNatClampNeg 0) (v10 * (Int32.toInt64 (10 - x1)))) (fun w13 =>
  some w13))))
set_option maxHeartbeats 4000000 in
set_option maxRecDepth 100000 in
theorem w_X3_addLampToWays_L8 {l : Launch} {p : Program} {e : Env} {s9 : State} {m9 : MethodId} {ag : Array Value} {below : List Frame} {meth : Method} {c : Code} {A : Nat → Prop} {Q : State → Prop} {D : va_G} {ad : Nat → Nat} {cy : Nat → ClassId} {o : zS} {s : zS4} {n : zS} {t : zS} {r : zS} {x1 : Int32} {x2 : Int32} (C0 : zCx p s9 m9 ag c cX3_addLampToWays 4 RX3 D cy A)  {wo : zJ} (e0 : ∀ (H : Heap) (locs : List Loc) (ls : Array Slot), va_P D vwCl (wdX ad cy o s n t r wo) H → va_D A (wdX ad cy o s n t r wo) → va_S A s9.heap H locs → lv_has ls 4 [(0, .ref (ad 0)), (2, .int x2)] → W p l e { frames := 0, cells := 0, slots := 0, locals := 0 } s9 m9 ag below meth c H locs 0 0 Q (F0 m9 45 ls [])) : ∀ (q9 : Nat) (x3 : Int32) (w : zJ), f_X3_addLampToWays_L8 x1 x2 q9 x3 w = some wo → ∀ (H : Heap) (locs : List Loc) (ls : Array Slot), va_P D vwCl (wdX ad cy o s n t r w) H → va_D A (wdX ad cy o s n t r w) → va_S A s9.heap H locs → lv_has ls 4 [(0, .ref (ad 0)), (1, .int x1), (2, .int x2), (3, .int x3)] → W p l e { frames := 0, cells := 0, slots := 0, locals := 0 } s9 m9 ag below meth c H locs 0 0 Q (F0 m9 8 ls []) := by
  obtain ⟨hx, hb, hml, hown, hts⟩ := id C0.1
  intro q9
  induction q9 with
  | zero =>
    intro x3 w hf
    rw [f_X3_addLampToWays_L8] at hf
    cases hf
  | succ q9 ih =>
    intro x3 w hf H locs ls hP hD hS hl
    rw [f_X3_addLampToWays_L8] at hf
    refine lv_iload_n hx hb dX3_addLampToWays_8 rfl (lv_at hl 3 rfl) ?_
    refine lv_if_le (tgt := 45) hx hb dX3_addLampToWays_9 (by decide) (fun c1 => ?_) (fun c1 => ?_)
    · have hf := it_t c1 hf
      obtain rfl := Option.some.inj hf
      exact e0 _ _ _ hP hD hS (lv_sub hl [0, 2] rfl)
    · have hf := it_f c1 hf
      refine lv_aload_n hx hb dX3_addLampToWays_12 rfl (lv_at hl 0 rfl) ?_
      refine gf_X3_34 C0 hP 0 wdX_0 rfl dX3_addLampToWays_13 ?_
      refine lv_iload_n hx hb dX3_addLampToWays_16 rfl (lv_at hl 3 rfl) ?_
      refine lv_aload_n hx hb dX3_addLampToWays_17 rfl (lv_at hl 0 rfl) ?_
      refine gf_X3_34 C0 hP 0 wdX_0 rfl dX3_addLampToWays_18 ?_
      refine lv_iload_n hx hb dX3_addLampToWays_21 rfl (lv_at hl 3 rfl) ?_
      obtain ⟨v2, ev2, h3, hf⟩ := zq_rd_s hf
      refine zla C0 hP 32 wdX_32 ev2 h3 dX3_addLampToWays_22 ?_
      refine lv_iload_n hx hb dX3_addLampToWays_23 rfl (lv_at hl 2 rfl) ?_
      refine lv_i2l hx hb dX3_addLampToWays_24 rfl ?_
      refine lv_lmul hx hb dX3_addLampToWays_25 ?_
      refine lv_aload_n hx hb dX3_addLampToWays_26 rfl (lv_at hl 0 rfl) ?_
      refine gf_X3_34 C0 hP 0 wdX_0 rfl dX3_addLampToWays_27 ?_
      refine lv_iload_n hx hb dX3_addLampToWays_30 rfl (lv_at hl 3 rfl) ?_
      refine lv_iconst (v := 1) hx hb dX3_addLampToWays_31 (by decide) ?_
      refine lv_isub hx hb dX3_addLampToWays_32 ?_
      obtain ⟨v4, ev4, h5, hf⟩ := zq_rd_s hf
      refine zla C0 hP 32 wdX_32 ev4 h5 dX3_addLampToWays_33 ?_
      refine lv_iload_n hx hb dX3_addLampToWays_34 rfl (lv_at hl 1 rfl) ?_
      refine lv_i2l hx hb dX3_addLampToWays_35 rfl ?_
      refine lv_lmul hx hb dX3_addLampToWays_36 ?_
      refine lv_ladd hx hb dX3_addLampToWays_37 ?_
      obtain ⟨h6, hf⟩ := zq_in_s hf
      obtain ⟨w7, ew7, hf⟩ := zq_lt_s hf
      refine zls (ws' := (wdX ad cy o s n t r w7)) C0 hP hD hS 32 wdX_32 h6 (by rw [ew7]; rfl) dX3_addLampToWays_38 (fun H locs hP hD hS => ?_)
      refine lv_iinc (v := (x3 + (-1))) (lv' := [(3, .int (x3 + (-1))), (0, .ref (ad 0)), (1, .int x1), (2, .int x2)]) hx hb dX3_addLampToWays_39 hl (k := 3) rfl rfl (by decide) rfl (fun ls hl => ?_)
      refine lv_goto (tgt := 8) hx hb dX3_addLampToWays_42 (by decide) ?_
      exact ih (x3 + (-1)) w7 hf _ _ _ hP hD hS (lv_sub hl [1, 2, 3, 0] rfl)
set_option maxHeartbeats 4000000 in
set_option maxRecDepth 100000 in
theorem c_X3_addLampToWays {l : Launch} {D : va_G} {ad : Nat → Nat} {cy : Nat → ClassId} {o : zS} {s : zS4} {n : zS} {t : zS} {r : zS} {w : zJ} {x1 : Int32} {w' : zJ} (hf : f_X3_addLampToWays w x1 = some w') : zMV l yX3_addLampToWays (zW yX3_addLampToWays cX3_addLampToWays 4 none) { frames := 0, cells := 0, slots := 0, locals := 0 } D cy [.ref (ad 0), .int x1] (wdX ad cy o s n t r w) (wdX ad cy o s n t r w') := by
  unfold f_X3_addLampToWays at hf
  refine zEV (by decide) (Nat.le_of_ble_eq_true rfl) ?_
  intro p e s9 m9 below meth c A Q C0 hret ls hl hP hD
  have hl : lv_has ls 4 [(0, .ref (ad 0)), (1, .int x1)] := hl
  have hS : va_S A s9.heap s9.heap [] := va_S.rf
  obtain ⟨hx, hb, hml, hown, hts⟩ := id C0.1
  refine lv_bipush (v := 10) hx hb dX3_addLampToWays_0 (by decide) ?_
  refine lv_iload_n hx hb dX3_addLampToWays_2 rfl (lv_at hl 1 rfl) ?_
  refine lv_isub hx hb dX3_addLampToWays_3 ?_
  refine lv_istore_n (lv' := [(2, .int (10 - x1)), (0, .ref (ad 0)), (1, .int x1)]) hx hb dX3_addLampToWays_4 rfl hl (by decide) rfl (fun ls hl => ?_)
  refine lv_bipush (v := 16) hx hb dX3_addLampToWays_5 (by decide) ?_
  refine lv_istore_n (lv' := [(3, .int 16), (2, .int (10 - x1)), (0, .ref (ad 0)), (1, .int x1)]) hx hb dX3_addLampToWays_7 rfl hl (by decide) rfl (fun ls hl => ?_)
  obtain ⟨w9, hL8, hf⟩ := zq_b1_s hf
  refine w_X3_addLampToWays_L8 C0 (fun H locs ls hP hD hS hl => ?_) 100 16 w hL8 _ _ _ hP hD hS (lv_sub hl [2, 3, 1, 0] rfl)
  refine lv_aload_n hx hb dX3_addLampToWays_45 rfl (lv_at hl 0 rfl) ?_
  refine gf_X3_34 C0 hP 0 wdX_0 rfl dX3_addLampToWays_46 ?_
  refine lv_iconst (v := 0) hx hb dX3_addLampToWays_49 (by decide) ?_
  refine lv_dup2_11 hx hb dX3_addLampToWays_50 rfl rfl ?_
  obtain ⟨v10, ev10, h11, hf⟩ := zq_rd_s hf
  refine zla C0 hP 32 wdX_32 ev10 h11 dX3_addLampToWays_51 ?_
  refine lv_iload_n hx hb dX3_addLampToWays_52 rfl (lv_at hl 1 rfl) ?_
  refine lv_i2l hx hb dX3_addLampToWays_53 rfl ?_
  refine lv_lmul hx hb dX3_addLampToWays_54 ?_
  obtain ⟨h12, hf⟩ := zq_in_s hf
  obtain ⟨w13, ew13, hf⟩ := zq_lt_s hf
  refine zls (ws' := (wdX ad cy o s n t r w13)) C0 hP hD hS 32 wdX_32 h12 (by rw [ew13]; rfl) dX3_addLampToWays_55 (fun H locs hP hD hS => ?_)
  obtain rfl := Option.some.inj hf
  exact hret _ _ _ _ dX3_addLampToWays_56 hP hD hS

def f_X3_countWays_L61 (n : zS) (x2 : Int32) (x3 : Int32) : Nat → Int32 → zJ → Option (zJ)
  | 0, _, _ => none
  | q9 + 1, x4, w =>
  zq_rd (n 2) 4 x2 (fun v13 =>
  if v13 ≤ x4 then (
  some w) else (
  zq_rd (n 3) 4 x2 (fun v16 =>
  if v16 = 0 then (
  zq_b1 (f_X3_addLampToWays w x3) (fun w20 =>
  f_X3_countWays_L61 n x2 x3 q9 (x4 + 1) w20)) else (
  some w))))
def f_X3_countWays_L17 (n : zS) (x1 : Int32) : Nat → Int32 → zJ → Option (zJ)
  | 0, _, _ => none
  | q9 + 1, x2, w =>
  if (n 8 0) ≤ x2 then (
  some w) else (
  zq_rd (n 3) 4 x2 (fun v6 =>
  if v6 = 0 then (
  zq_rd (n 0) 4 x2 (fun v9 =>
  zq_b1 (f_X3_levelsThatLight v9 x1) (fun r12 =>
  zq_b1 (f_X3_countWays_L61 n x2 r12 100 0 w) (fun w22 =>
  f_X3_countWays_L17 n x1 q9 (x2 + 1) w22)))) else (
  zq_b1 (f_X3_countWays_L61 n x2 0 100 0 w) (fun w24 =>
  f_X3_countWays_L17 n x1 q9 (x2 + 1) w24))))
def f_X3_countWays (n : zS) (w : zJ) (x1 : Int32) : Option (zJ) :=
  zq_b1 (f_J7_fill_d0a16 17 w 0) (fun w2 =>
  zq_in 17 0 (zq_lt (vp_updL w2 (Int32.toNatClampNeg 0) 1) (fun w4 =>
  zq_b1 (f_X3_countWays_L17 n x1 100 0 w4) (fun w26 =>
  some w26))))
set_option maxHeartbeats 4000000 in
set_option maxRecDepth 100000 in
theorem w_X3_countWays_L61 {l : Launch} {p : Program} {e : Env} {s9 : State} {m9 : MethodId} {ag : Array Value} {below : List Frame} {meth : Method} {c : Code} {A : Nat → Prop} {Q : State → Prop} {D : va_G} {ad : Nat → Nat} {cy : Nat → ClassId} {o : zS} {s : zS4} {n : zS} {t : zS} {r : zS} {x2 : Int32} {x3 : Int32} {x1 : Int32} (C0 : zCx p s9 m9 ag c cX3_countWays 5 RX3 D cy A)  {wo : zJ} (e0 : ∀ (H : Heap) (locs : List Loc) (ls : Array Slot), va_P D vwCl (wdX ad cy o s n t r wo) H → va_D A (wdX ad cy o s n t r wo) → va_S A s9.heap H locs → lv_has ls 5 [(0, .ref (ad 0)), (1, .int x1), (2, .int x2)] → W p l e { frames := 2, cells := 0, slots := 0, locals := 45 } s9 m9 ag below meth c H locs 0 0 Q (F0 m9 98 ls [])) : ∀ (q9 : Nat) (x4 : Int32) (w : zJ), f_X3_countWays_L61 n x2 x3 q9 x4 w = some wo → ∀ (H : Heap) (locs : List Loc) (ls : Array Slot), va_P D vwCl (wdX ad cy o s n t r w) H → va_D A (wdX ad cy o s n t r w) → va_S A s9.heap H locs → lv_has ls 5 [(0, .ref (ad 0)), (1, .int x1), (2, .int x2), (3, .int x3), (4, .int x4)] → W p l e { frames := 2, cells := 0, slots := 0, locals := 45 } s9 m9 ag below meth c H locs 0 0 Q (F0 m9 61 ls []) := by
  obtain ⟨hx, hb, hml, hown, hts⟩ := id C0.1
  intro q9
  induction q9 with
  | zero =>
    intro x4 w hf
    rw [f_X3_countWays_L61] at hf
    cases hf
  | succ q9 ih =>
    intro x4 w hf H locs ls hP hD hS hl
    rw [f_X3_countWays_L61] at hf
    refine lv_iload hx hb dX3_countWays_61 (lv_at hl 4 rfl) ?_
    refine lv_aload_n hx hb dX3_countWays_63 rfl (lv_at hl 0 rfl) ?_
    refine gf_X3_20 C0 hP 0 wdX_0 rfl dX3_countWays_64 ?_
    refine gf_X3_82 C0 hP 10 wdX_10 rfl dX3_countWays_67 ?_
    refine lv_iload_n hx hb dX3_countWays_70 rfl (lv_at hl 2 rfl) ?_
    obtain ⟨v13, ev13, h14, hf⟩ := zq_rd_s hf
    refine zia C0 hP 13 wdX_13 ev13 h14 dX3_countWays_71 ?_
    refine lv_icmp_ge (tgt := 98) hx hb dX3_countWays_72 (by decide) (fun c15 => ?_) (fun c15 => ?_)
    · have hf := it_t c15 hf
      obtain rfl := Option.some.inj hf
      exact e0 _ _ _ hP hD hS (lv_sub hl [0, 1, 2] rfl)
    · have hf := it_f c15 hf
      refine lv_aload_n hx hb dX3_countWays_75 rfl (lv_at hl 0 rfl) ?_
      refine gf_X3_20 C0 hP 0 wdX_0 rfl dX3_countWays_76 ?_
      refine gf_X3_88 C0 hP 10 wdX_10 rfl dX3_countWays_79 ?_
      refine lv_iload_n hx hb dX3_countWays_82 rfl (lv_at hl 2 rfl) ?_
      obtain ⟨v16, ev16, h17, hf⟩ := zq_rd_s hf
      refine zza C0 hP 14 wdX_14 ev16 h17 dX3_countWays_83 ?_
      refine lv_if_ne (tgt := 98) hx hb dX3_countWays_84 (by decide) (fun c18 => ?_) (fun c18 => ?_)
      · have hf := it_f c18 hf
        obtain rfl := Option.some.inj hf
        exact e0 _ _ _ hP hD hS (lv_sub hl [0, 1, 2] rfl)
      · have hf := it_t c18 hf
        refine lv_aload_n hx hb dX3_countWays_87 rfl (lv_at hl 0 rfl) ?_
        refine lv_iload_n hx hb dX3_countWays_88 rfl (lv_at hl 3 rfl) ?_
        obtain ⟨w20, hc19, hf⟩ := zq_b1_s hf
        refine zVV (ws' := (wdX ad cy o s n t r w20)) (rest := []) C0 (fun _ h => h) zF.id (c_X3_addLampToWays hc19) hP hD hS my_X3_addLampToWays kl_X3_263 ⟨rfl, rfl⟩ ⟨Nat.le_of_ble_eq_true rfl, Nat.le_of_ble_eq_true rfl⟩ (q0 := 0) (ci := 3) rfl wdX_0 rfl hl.1 rfl (Nat.le_of_ble_eq_true rfl) dX3_countWays_89 ⟨Nat.zero_le _, Nat.zero_le _⟩ (fun H locs hP hD hS => ?_)
        refine lv_iinc (v := (x4 + 1)) (lv' := [(4, .int (x4 + 1)), (0, .ref (ad 0)), (1, .int x1), (2, .int x2), (3, .int x3)]) hx hb dX3_countWays_92 hl (k := 4) rfl rfl (by decide) rfl (fun ls hl => ?_)
        refine lv_goto (tgt := 61) hx hb dX3_countWays_95 (by decide) ?_
        exact ih (x4 + 1) w20 hf _ _ _ hP hD hS (lv_sub hl [1, 2, 3, 4, 0] rfl)
set_option maxHeartbeats 4000000 in
set_option maxRecDepth 100000 in
theorem w_X3_countWays_L17 {l : Launch} {p : Program} {e : Env} {s9 : State} {m9 : MethodId} {ag : Array Value} {below : List Frame} {meth : Method} {c : Code} {A : Nat → Prop} {Q : State → Prop} {D : va_G} {ad : Nat → Nat} {cy : Nat → ClassId} {o : zS} {s : zS4} {n : zS} {t : zS} {r : zS} {x1 : Int32} (C0 : zCx p s9 m9 ag c cX3_countWays 5 RX3 D cy A)  {wo : zJ} (e0 : ∀ (H : Heap) (locs : List Loc) (ls : Array Slot), va_P D vwCl (wdX ad cy o s n t r wo) H → va_D A (wdX ad cy o s n t r wo) → va_S A s9.heap H locs → lv_has ls 5 [] → W p l e { frames := 2, cells := 0, slots := 0, locals := 45 } s9 m9 ag below meth c H locs 0 0 Q (F0 m9 104 ls [])) : ∀ (q9 : Nat) (x2 : Int32) (w : zJ), f_X3_countWays_L17 n x1 q9 x2 w = some wo → ∀ (H : Heap) (locs : List Loc) (ls : Array Slot), va_P D vwCl (wdX ad cy o s n t r w) H → va_D A (wdX ad cy o s n t r w) → va_S A s9.heap H locs → lv_has ls 5 [(0, .ref (ad 0)), (1, .int x1), (2, .int x2)] → W p l e { frames := 2, cells := 0, slots := 0, locals := 45 } s9 m9 ag below meth c H locs 0 0 Q (F0 m9 17 ls []) := by
  obtain ⟨hx, hb, hml, hown, hts⟩ := id C0.1
  intro q9
  induction q9 with
  | zero =>
    intro x2 w hf
    rw [f_X3_countWays_L17] at hf
    cases hf
  | succ q9 ih =>
    intro x2 w hf H locs ls hP hD hS hl
    rw [f_X3_countWays_L17] at hf
    refine lv_iload_n hx hb dX3_countWays_17 rfl (lv_at hl 2 rfl) ?_
    refine lv_aload_n hx hb dX3_countWays_18 rfl (lv_at hl 0 rfl) ?_
    refine gf_X3_20 C0 hP 0 wdX_0 rfl dX3_countWays_19 ?_
    refine gf_X3_72 C0 hP 10 wdX_10 rfl dX3_countWays_22 ?_
    refine lv_icmp_ge (tgt := 104) hx hb dX3_countWays_25 (by decide) (fun c5 => ?_) (fun c5 => ?_)
    · have hf := it_t c5 hf
      obtain rfl := Option.some.inj hf
      exact e0 _ _ _ hP hD hS (lv_sub hl [] rfl)
    · have hf := it_f c5 hf
      refine lv_aload_n hx hb dX3_countWays_28 rfl (lv_at hl 0 rfl) ?_
      refine gf_X3_20 C0 hP 0 wdX_0 rfl dX3_countWays_29 ?_
      refine gf_X3_88 C0 hP 10 wdX_10 rfl dX3_countWays_32 ?_
      refine lv_iload_n hx hb dX3_countWays_35 rfl (lv_at hl 2 rfl) ?_
      obtain ⟨v6, ev6, h7, hf⟩ := zq_rd_s hf
      refine zza C0 hP 14 wdX_14 ev6 h7 dX3_countWays_36 ?_
      refine lv_if_eq (tgt := 44) hx hb dX3_countWays_37 (by decide) (fun c8 => ?_) (fun c8 => ?_)
      · have hf := it_t c8 hf
        refine lv_aload_n hx hb dX3_countWays_44 rfl (lv_at hl 0 rfl) ?_
        refine gf_X3_20 C0 hP 0 wdX_0 rfl dX3_countWays_45 ?_
        refine gf_X3_78 C0 hP 10 wdX_10 rfl dX3_countWays_48 ?_
        refine lv_iload_n hx hb dX3_countWays_51 rfl (lv_at hl 2 rfl) ?_
        obtain ⟨v9, ev9, h10, hf⟩ := zq_rd_s hf
        refine zia C0 hP 11 wdX_11 ev9 h10 dX3_countWays_52 ?_
        refine lv_iload_n hx hb dX3_countWays_53 rfl (lv_at hl 1 rfl) ?_
        obtain ⟨r12, hc11, hf⟩ := zq_b1_s hf
        refine zSI (ws' := (wdX ad cy o s n t r w)) (rest := []) C0 (fun _ h => h) zF.nil (c_X3_levelsThatLight hc11) hP hD hS my_X3_levelsThatLight kl_X3_259 ⟨rfl, rfl⟩ ⟨Nat.le_of_ble_eq_true rfl, Nat.le_of_ble_eq_true rfl⟩ rfl hl.1 rfl (Nat.le_of_ble_eq_true rfl) dX3_countWays_54 ⟨Nat.zero_le _, Nat.zero_le _⟩ (fun H locs hP hD hS => ?_)
        refine lv_istore_n (lv' := [(3, .int r12), (0, .ref (ad 0)), (1, .int x1), (2, .int x2)]) hx hb dX3_countWays_57 rfl hl (by decide) rfl (fun ls hl => ?_)
        refine lv_iconst (v := 0) hx hb dX3_countWays_58 (by decide) ?_
        refine lv_istore (lv' := [(4, .int 0), (3, .int r12), (0, .ref (ad 0)), (1, .int x1), (2, .int x2)]) hx hb dX3_countWays_59 hl (by decide) rfl (fun ls hl => ?_)
        obtain ⟨w22, hL21, hf⟩ := zq_b1_s hf
        refine w_X3_countWays_L61 C0 (fun H locs ls hP hD hS hl => ?_) 100 0 w hL21 _ _ _ hP hD hS (lv_sub hl [2, 3, 4, 1, 0] rfl)
        refine lv_iinc (v := (x2 + 1)) (lv' := [(2, .int (x2 + 1)), (0, .ref (ad 0)), (1, .int x1)]) hx hb dX3_countWays_98 hl (k := 2) rfl rfl (by decide) rfl (fun ls hl => ?_)
        refine lv_goto (tgt := 17) hx hb dX3_countWays_101 (by decide) ?_
        exact ih (x2 + 1) w22 hf _ _ _ hP hD hS (lv_sub hl [1, 2, 0] rfl)
      · have hf := it_f c8 hf
        refine lv_iconst (v := 0) hx hb dX3_countWays_40 (by decide) ?_
        refine lv_goto (tgt := 57) hx hb dX3_countWays_41 (by decide) ?_
        refine lv_istore_n (lv' := [(3, .int 0), (0, .ref (ad 0)), (1, .int x1), (2, .int x2)]) hx hb dX3_countWays_57 rfl hl (by decide) rfl (fun ls hl => ?_)
        refine lv_iconst (v := 0) hx hb dX3_countWays_58 (by decide) ?_
        refine lv_istore (lv' := [(4, .int 0), (3, .int 0), (0, .ref (ad 0)), (1, .int x1), (2, .int x2)]) hx hb dX3_countWays_59 hl (by decide) rfl (fun ls hl => ?_)
        obtain ⟨w24, hL23, hf⟩ := zq_b1_s hf
        refine w_X3_countWays_L61 C0 (fun H locs ls hP hD hS hl => ?_) 100 0 w hL23 _ _ _ hP hD hS (lv_sub hl [2, 3, 4, 1, 0] rfl)
        refine lv_iinc (v := (x2 + 1)) (lv' := [(2, .int (x2 + 1)), (0, .ref (ad 0)), (1, .int x1)]) hx hb dX3_countWays_98 hl (k := 2) rfl rfl (by decide) rfl (fun ls hl => ?_)
        refine lv_goto (tgt := 17) hx hb dX3_countWays_101 (by decide) ?_
        exact ih (x2 + 1) w24 hf _ _ _ hP hD hS (lv_sub hl [1, 2, 0] rfl)
set_option maxHeartbeats 4000000 in
set_option maxRecDepth 100000 in
theorem c_X3_countWays {l : Launch} {D : va_G} {ad : Nat → Nat} {cy : Nat → ClassId} {o : zS} {s : zS4} {n : zS} {t : zS} {r : zS} {w : zJ} {x1 : Int32} {w' : zJ} (hf : f_X3_countWays n w x1 = some w') : zMV l yX3_countWays (zW yX3_countWays cX3_countWays 5 none) { frames := 2, cells := 0, slots := 0, locals := 45 } D cy [.ref (ad 0), .int x1] (wdX ad cy o s n t r w) (wdX ad cy o s n t r w') := by
  unfold f_X3_countWays at hf
  refine zEV (by decide) (Nat.le_of_ble_eq_true rfl) ?_
  intro p e s9 m9 below meth c A Q C0 hret ls hl hP hD
  have hl : lv_has ls 5 [(0, .ref (ad 0)), (1, .int x1)] := hl
  have hS : va_S A s9.heap s9.heap [] := va_S.rf
  obtain ⟨hx, hb, hml, hown, hts⟩ := id C0.1
  refine lv_aload_n hx hb dX3_countWays_0 rfl (lv_at hl 0 rfl) ?_
  refine gf_X3_34 C0 hP 0 wdX_0 rfl dX3_countWays_1 ?_
  refine lv_lconst (v := 0) hx hb dX3_countWays_4 (by decide) ?_
  obtain ⟨w2, hc1, hf⟩ := zq_b1_s hf
  refine zSV (ws' := (wdX ad cy o s n t r w2)) (rest := []) C0 (fun _ h => h) fX_w (c_J7_fill_d0a16 (ad := ad 32) (ln := 17) hc1) hP hD hS my_J7_fill_d0a16 kl_X3_253 ⟨rfl, rfl⟩ ⟨Nat.le_of_ble_eq_true rfl, Nat.le_of_ble_eq_true rfl⟩ rfl hl.1 rfl (Nat.le_of_ble_eq_true rfl) dX3_countWays_5 ⟨Nat.zero_le _, Nat.zero_le _⟩ (fun H locs hP hD hS => ?_)
  refine lv_aload_n hx hb dX3_countWays_8 rfl (lv_at hl 0 rfl) ?_
  refine gf_X3_34 C0 hP 0 wdX_0 rfl dX3_countWays_9 ?_
  refine lv_iconst (v := 0) hx hb dX3_countWays_12 (by decide) ?_
  refine lv_lconst (v := 1) hx hb dX3_countWays_13 (by decide) ?_
  obtain ⟨h3, hf⟩ := zq_in_s hf
  obtain ⟨w4, ew4, hf⟩ := zq_lt_s hf
  refine zls (ws' := (wdX ad cy o s n t r w4)) C0 hP hD hS 32 wdX_32 h3 (by rw [ew4]; rfl) dX3_countWays_14 (fun H locs hP hD hS => ?_)
  refine lv_iconst (v := 0) hx hb dX3_countWays_15 (by decide) ?_
  refine lv_istore_n (lv' := [(2, .int 0), (0, .ref (ad 0)), (1, .int x1)]) hx hb dX3_countWays_16 rfl hl (by decide) rfl (fun ls hl => ?_)
  obtain ⟨w26, hL25, hf⟩ := zq_b1_s hf
  refine w_X3_countWays_L17 C0 (fun H locs ls hP hD hS hl => ?_) 100 0 w4 hL25 _ _ _ hP hD hS (lv_sub hl [1, 2, 0] rfl)
  obtain rfl := Option.some.inj hf
  exact hret _ _ _ _ dX3_countWays_104 hP hD hS

def f_X3_greatestDivisor_L3  : Nat → Int64 → Int64 → Int32 → Option (Int64)
  | 0, _, _, _ => none
  | q9 + 1, x0, x2, x4 =>
  if 1000 ≤ x4 then (
  some x0) else (
  if (lg_cmp x2 0) = 0 then (
  some x0) else (
  zq_dl x2 (
  f_X3_greatestDivisor_L3 q9 x2 (x0 - x0 / x2 * x2) (x4 + 1))))
def f_X3_greatestDivisor  (x0 : Int64) (x2 : Int64) : Option (Int64) :=
  zq_b1 (f_X3_greatestDivisor_L3 1100 x0 x2 0) (fun y5 =>
  some y5)
set_option maxHeartbeats 4000000 in
set_option maxRecDepth 100000 in
theorem w_X3_greatestDivisor_L3 {l : Launch} {p : Program} {e : Env} {s9 : State} {m9 : MethodId} {ag : Array Value} {below : List Frame} {meth : Method} {c : Code} {A : Nat → Prop} {Q : State → Prop} {D : va_G} {cy : Nat → ClassId}   (C0 : zCx p s9 m9 ag c cX3_greatestDivisor 7 RX3 D cy A)  {o0 : Int64} (e0 : ∀ (H : Heap) (locs : List Loc) (ls : Array Slot), va_P D vwCl [] H → va_D A [] → va_S A s9.heap H locs → lv_has ls 7 [(0, .long o0)] → W p l e { frames := 0, cells := 0, slots := 0, locals := 0 } s9 m9 ag below meth c H locs 0 0 Q (F0 m9 33 ls [])) : ∀ (q9 : Nat) (x0 : Int64) (x2 : Int64) (x4 : Int32), f_X3_greatestDivisor_L3 q9 x0 x2 x4 = some o0 → ∀ (H : Heap) (locs : List Loc) (ls : Array Slot), va_P D vwCl [] H → va_D A [] → va_S A s9.heap H locs → lv_has ls 7 [(0, .long x0), (2, .long x2), (4, .int x4)] → W p l e { frames := 0, cells := 0, slots := 0, locals := 0 } s9 m9 ag below meth c H locs 0 0 Q (F0 m9 3 ls []) := by
  obtain ⟨hx, hb, hml, hown, hts⟩ := id C0.1
  intro q9
  induction q9 with
  | zero =>
    intro x0 x2 x4 hf
    rw [f_X3_greatestDivisor_L3] at hf
    cases hf
  | succ q9 ih =>
    intro x0 x2 x4 hf H locs ls hP hD hS hl
    rw [f_X3_greatestDivisor_L3] at hf
    refine lv_iload hx hb dX3_greatestDivisor_3 (lv_at hl 2 rfl) ?_
    refine lv_sipush (v := 1000) hx hb dX3_greatestDivisor_5 (by decide) ?_
    refine lv_icmp_ge (tgt := 33) hx hb dX3_greatestDivisor_8 (by decide) (fun c1 => ?_) (fun c1 => ?_)
    · have hf := it_t c1 hf
      obtain rfl := Option.some.inj hf
      exact e0 _ _ _ hP hD hS (lv_sub hl [0] rfl)
    · have hf := it_f c1 hf
      refine lv_lload_n hx hb dX3_greatestDivisor_11 rfl (lv_at hl 1 rfl) ?_
      refine lv_lconst (v := 0) hx hb dX3_greatestDivisor_12 (by decide) ?_
      refine W.lcmp hx hb dX3_greatestDivisor_13 ?_
      refine lv_if_eq (tgt := 33) hx hb dX3_greatestDivisor_14 (by decide) (fun c2 => ?_) (fun c2 => ?_)
      · have hf := it_t c2 hf
        obtain rfl := Option.some.inj hf
        exact e0 _ _ _ hP hD hS (lv_sub hl [0] rfl)
      · have hf := it_f c2 hf
        refine lv_lload_n hx hb dX3_greatestDivisor_17 rfl (lv_at hl 0 rfl) ?_
        refine lv_lload_n hx hb dX3_greatestDivisor_18 rfl (lv_at hl 1 rfl) ?_
        obtain ⟨h3, hf⟩ := zq_dl_s hf
        refine lv_lrem hx hb dX3_greatestDivisor_19 h3 ?_
        refine lv_lstore (lv' := [(5, .long (x0 - x0 / x2 * x2)), (0, .long x0), (2, .long x2), (4, .int x4)]) hx hb dX3_greatestDivisor_20 hl (by decide) rfl (fun ls hl => ?_)
        refine lv_lload_n hx hb dX3_greatestDivisor_22 rfl (lv_at hl 2 rfl) ?_
        refine lv_lstore_n (lv' := [(0, .long x2), (5, .long (x0 - x0 / x2 * x2)), (2, .long x2), (4, .int x4)]) hx hb dX3_greatestDivisor_23 rfl hl (by decide) rfl (fun ls hl => ?_)
        refine lv_lload hx hb dX3_greatestDivisor_24 (lv_at hl 1 rfl) ?_
        refine lv_lstore_n (lv' := [(2, .long (x0 - x0 / x2 * x2)), (0, .long x2), (5, .long (x0 - x0 / x2 * x2)), (4, .int x4)]) hx hb dX3_greatestDivisor_26 rfl hl (by decide) rfl (fun ls hl => ?_)
        refine lv_iinc (v := (x4 + 1)) (lv' := [(4, .int (x4 + 1)), (2, .long (x0 - x0 / x2 * x2)), (0, .long x2), (5, .long (x0 - x0 / x2 * x2))]) hx hb dX3_greatestDivisor_27 hl (k := 3) rfl rfl (by decide) rfl (fun ls hl => ?_)
        refine lv_goto (tgt := 3) hx hb dX3_greatestDivisor_30 (by decide) ?_
        exact ih x2 (x0 - x0 / x2 * x2) (x4 + 1) hf _ _ _ hP hD hS (lv_sub hl [2, 1, 0] rfl)
set_option maxHeartbeats 4000000 in
set_option maxRecDepth 100000 in
theorem c_X3_greatestDivisor {l : Launch} {D : va_G} {cy : Nat → ClassId}   {x0 : Int64} {x2 : Int64} {r0 : Int64} (hf : f_X3_greatestDivisor x0 x2 = some r0) : zML l yX3_greatestDivisor (zW yX3_greatestDivisor cX3_greatestDivisor 7 (some .long)) { frames := 0, cells := 0, slots := 0, locals := 0 } D cy [.long x0, .long x2] [] r0 [] := by
  unfold f_X3_greatestDivisor at hf
  refine zEL (by decide) (Nat.le_of_ble_eq_true rfl) ?_
  intro p e s9 m9 below meth c A Q C0 hret ls hl hP hD
  have hl : lv_has ls 7 [(0, .long x0), (2, .long x2)] := hl
  have hS : va_S A s9.heap s9.heap [] := va_S.rf
  obtain ⟨hx, hb, hml, hown, hts⟩ := id C0.1
  refine lv_iconst (v := 0) hx hb dX3_greatestDivisor_0 (by decide) ?_
  refine lv_istore (lv' := [(4, .int 0), (0, .long x0), (2, .long x2)]) hx hb dX3_greatestDivisor_1 hl (by decide) rfl (fun ls hl => ?_)
  obtain ⟨y5, hL4, hf⟩ := zq_b1_s hf
  refine w_X3_greatestDivisor_L3 C0 (fun H locs ls hP hD hS hl => ?_) 1100 x0 x2 0 hL4 _ _ _ hP hD hS (lv_sub hl [1, 2, 0] rfl)
  refine lv_lload_n hx hb dX3_greatestDivisor_33 rfl (lv_at hl 0 rfl) ?_
  obtain rfl := Option.some.inj hf
  exact hret _ _ _ _ dX3_greatestDivisor_34 hP hD hS

def f_X3_odds_L66 (w : zJ) (x2 : Int32) : Nat → Int64 → Int64 → Int32 → Option (Int64 × Int64)
  | 0, _, _, _ => none
  | q9 + 1, x4, x6, x8 =>
  if 16 < x8 then (
  some (x4, x6)) else (
  zq_rd w 17 x8 (fun v16 =>
  if x8 < x2 then (
  f_X3_odds_L66 w x2 q9 x4 (x6 + v16) (x8 + 1)) else (
  zq_rd w 17 x8 (fun v19 =>
  f_X3_odds_L66 w x2 q9 (x4 + v19) (x6 + v16) (x8 + 1)))))
def f_X3_odds (n : zS) (w : zJ) (x1 : Int32) (x2 : Int32) (x3 : Int32) : Option (Int64 × zJ) :=
  zq_b1 (f_X3_isUnit x1) (fun r2 =>
  if r2 = 0 then (
  some ((-9223372036854775808), w)) else (
  if x2 < 0 then (
  some ((-9223372036854775808), w)) else (
  if 16 < x2 then (
  some ((-9223372036854775808), w)) else (
  if x3 < 0 then (
  some ((-9223372036854775808), w)) else (
  if x3 ≤ 1 then (
  zq_b1 (f_X2_stands n) (fun r9 =>
  if r9 = 0 then (
  some ((-9223372036854775808), w)) else (
  zq_rd (n 6) 15 x1 (fun v11 =>
  zq_b1 (f_X3_countWays n w v11) (fun w14 =>
  zq_b2 (f_X3_odds_L66 w14 x2 100 0 0 0) (fun y22 y23 =>
  zq_b1 (f_X3_greatestDivisor y22 y23) (fun r25 =>
  if (lg_cmp r25 0) = 0 then (
  some ((-9223372036854775808), w14)) else (
  if x3 = 0 then (
  zq_dl r25 (
  some ((y22 / r25), w14))) else (
  zq_dl r25 (
  some ((y23 / r25), w14))))))))))) else (
  some ((-9223372036854775808), w)))))))
set_option maxHeartbeats 4000000 in
set_option maxRecDepth 100000 in
theorem w_X3_odds_L66 {l : Launch} {p : Program} {e : Env} {s9 : State} {m9 : MethodId} {ag : Array Value} {below : List Frame} {meth : Method} {c : Code} {A : Nat → Prop} {Q : State → Prop} {D : va_G} {ad : Nat → Nat} {cy : Nat → ClassId} {o : zS} {s : zS4} {n : zS} {t : zS} {r : zS} {w : zJ} {x2 : Int32} {x3 : Int32} (C0 : zCx p s9 m9 ag c cX3_odds 10 RX3 D cy A)  {o4 : Int64} {o6 : Int64} (e0 : ∀ (H : Heap) (locs : List Loc) (ls : Array Slot), va_P D vwCl (wdX ad cy o s n t r w) H → va_D A (wdX ad cy o s n t r w) → va_S A s9.heap H locs → lv_has ls 10 [(3, .int x3), (4, .long o4), (6, .long o6)] → W p l e { frames := 3, cells := 0, slots := 0, locals := 69 } s9 m9 ag below meth c H locs 0 0 Q (F0 m9 109 ls [])) : ∀ (q9 : Nat) (x4 : Int64) (x6 : Int64) (x8 : Int32), f_X3_odds_L66 w x2 q9 x4 x6 x8 = some (o4, o6) → ∀ (H : Heap) (locs : List Loc) (ls : Array Slot), va_P D vwCl (wdX ad cy o s n t r w) H → va_D A (wdX ad cy o s n t r w) → va_S A s9.heap H locs → lv_has ls 10 [(0, .ref (ad 0)), (2, .int x2), (3, .int x3), (4, .long x4), (6, .long x6), (8, .int x8)] → W p l e { frames := 3, cells := 0, slots := 0, locals := 69 } s9 m9 ag below meth c H locs 0 0 Q (F0 m9 66 ls []) := by
  obtain ⟨hx, hb, hml, hown, hts⟩ := id C0.1
  intro q9
  induction q9 with
  | zero =>
    intro x4 x6 x8 hf
    rw [f_X3_odds_L66] at hf
    cases hf
  | succ q9 ih =>
    intro x4 x6 x8 hf H locs ls hP hD hS hl
    rw [f_X3_odds_L66] at hf
    refine lv_iload hx hb dX3_odds_66 (lv_at hl 5 rfl) ?_
    refine lv_bipush (v := 16) hx hb dX3_odds_68 (by decide) ?_
    refine lv_icmp_gt (tgt := 109) hx hb dX3_odds_70 (by decide) (fun c15 => ?_) (fun c15 => ?_)
    · have hf := it_t c15 hf
      obtain ⟨rfl, rfl⟩ := zq_j2 hf
      exact e0 _ _ _ hP hD hS (lv_sub hl [2, 3, 4] rfl)
    · have hf := it_f c15 hf
      refine lv_lload hx hb dX3_odds_73 (lv_at hl 4 rfl) ?_
      refine lv_aload_n hx hb dX3_odds_75 rfl (lv_at hl 0 rfl) ?_
      refine gf_X3_34 C0 hP 0 wdX_0 rfl dX3_odds_76 ?_
      refine lv_iload hx hb dX3_odds_79 (lv_at hl 5 rfl) ?_
      obtain ⟨v16, ev16, h17, hf⟩ := zq_rd_s hf
      refine zla C0 hP 32 wdX_32 ev16 h17 dX3_odds_81 ?_
      refine lv_ladd hx hb dX3_odds_82 ?_
      refine lv_lstore (lv' := [(6, .long (x6 + v16)), (0, .ref (ad 0)), (2, .int x2), (3, .int x3), (4, .long x4), (8, .int x8)]) hx hb dX3_odds_83 hl (by decide) rfl (fun ls hl => ?_)
      refine lv_iload hx hb dX3_odds_85 (lv_at hl 5 rfl) ?_
      refine lv_iload_n hx hb dX3_odds_87 rfl (lv_at hl 2 rfl) ?_
      refine lv_icmp_lt (tgt := 103) hx hb dX3_odds_88 (by decide) (fun c18 => ?_) (fun c18 => ?_)
      · have hf := it_t c18 hf
        refine lv_iinc (v := (x8 + 1)) (lv' := [(8, .int (x8 + 1)), (6, .long (x6 + v16)), (0, .ref (ad 0)), (2, .int x2), (3, .int x3), (4, .long x4)]) hx hb dX3_odds_103 hl (k := 5) rfl rfl (by decide) rfl (fun ls hl => ?_)
        refine lv_goto (tgt := 66) hx hb dX3_odds_106 (by decide) ?_
        exact ih x4 (x6 + v16) (x8 + 1) hf _ _ _ hP hD hS (lv_sub hl [2, 3, 4, 5, 1, 0] rfl)
      · have hf := it_f c18 hf
        refine lv_lload hx hb dX3_odds_91 (lv_at hl 4 rfl) ?_
        refine lv_aload_n hx hb dX3_odds_93 rfl (lv_at hl 1 rfl) ?_
        refine gf_X3_34 C0 hP 0 wdX_0 rfl dX3_odds_94 ?_
        refine lv_iload hx hb dX3_odds_97 (lv_at hl 5 rfl) ?_
        obtain ⟨v19, ev19, h20, hf⟩ := zq_rd_s hf
        refine zla C0 hP 32 wdX_32 ev19 h20 dX3_odds_99 ?_
        refine lv_ladd hx hb dX3_odds_100 ?_
        refine lv_lstore (lv' := [(4, .long (x4 + v19)), (6, .long (x6 + v16)), (0, .ref (ad 0)), (2, .int x2), (3, .int x3), (8, .int x8)]) hx hb dX3_odds_101 hl (by decide) rfl (fun ls hl => ?_)
        refine lv_iinc (v := (x8 + 1)) (lv' := [(8, .int (x8 + 1)), (4, .long (x4 + v19)), (6, .long (x6 + v16)), (0, .ref (ad 0)), (2, .int x2), (3, .int x3)]) hx hb dX3_odds_103 hl (k := 5) rfl rfl (by decide) rfl (fun ls hl => ?_)
        refine lv_goto (tgt := 66) hx hb dX3_odds_106 (by decide) ?_
        exact ih (x4 + v19) (x6 + v16) (x8 + 1) hf _ _ _ hP hD hS (lv_sub hl [3, 4, 5, 1, 2, 0] rfl)
set_option maxHeartbeats 4000000 in
set_option maxRecDepth 100000 in
theorem c_X3_odds {l : Launch} {D : va_G} {ad : Nat → Nat} {cy : Nat → ClassId} {o : zS} {s : zS4} {n : zS} {t : zS} {r : zS} {w : zJ} {x1 : Int32} {x2 : Int32} {x3 : Int32} {r0 : Int64} {w' : zJ} (hf : f_X3_odds n w x1 x2 x3 = some (r0, w')) : zML l yX3_odds (zW yX3_odds cX3_odds 10 (some .long)) { frames := 3, cells := 0, slots := 0, locals := 69 } D cy [.ref (ad 0), .int x1, .int x2, .int x3] (wdX ad cy o s n t r w) r0 (wdX ad cy o s n t r w') := by
  unfold f_X3_odds at hf
  refine zEL (by decide) (Nat.le_of_ble_eq_true rfl) ?_
  intro p e s9 m9 below meth c A Q C0 hret ls hl hP hD
  have hl : lv_has ls 10 [(0, .ref (ad 0)), (1, .int x1), (2, .int x2), (3, .int x3)] := hl
  have hS : va_S A s9.heap s9.heap [] := va_S.rf
  obtain ⟨hx, hb, hml, hown, hts⟩ := id C0.1
  refine lv_iload_n hx hb dX3_odds_0 rfl (lv_at hl 1 rfl) ?_
  obtain ⟨r2, hc1, hf⟩ := zq_b1_s hf
  refine zSI (ws' := (wdX ad cy o s n t r w)) (rest := []) C0 (fun _ h => h) zF.nil (c_X3_isUnit hc1) hP hD hS my_X3_isUnit kl_X3_136 ⟨rfl, rfl⟩ ⟨Nat.le_of_ble_eq_true rfl, Nat.le_of_ble_eq_true rfl⟩ rfl hl.1 rfl (Nat.le_of_ble_eq_true rfl) dX3_odds_1 ⟨Nat.zero_le _, Nat.zero_le _⟩ (fun H locs hP hD hS => ?_)
  refine lv_if_eq (tgt := 26) hx hb dX3_odds_4 (by decide) (fun c3 => ?_) (fun c3 => ?_)
  · have hf := it_t c3 hf
    refine lv_ldc2 hx hb hown (hts _ kc_X3_194) dX3_odds_26 ?_
    obtain ⟨rfl, rfl⟩ := zq_j2 hf
    exact hret _ _ _ _ dX3_odds_29 hP hD hS
  · have hf := it_f c3 hf
    refine lv_iload_n hx hb dX3_odds_7 rfl (lv_at hl 2 rfl) ?_
    refine lv_if_lt (tgt := 26) hx hb dX3_odds_8 (by decide) (fun c4 => ?_) (fun c4 => ?_)
    · have hf := it_t c4 hf
      refine lv_ldc2 hx hb hown (hts _ kc_X3_194) dX3_odds_26 ?_
      obtain ⟨rfl, rfl⟩ := zq_j2 hf
      exact hret _ _ _ _ dX3_odds_29 hP hD hS
    · have hf := it_f c4 hf
      refine lv_iload_n hx hb dX3_odds_11 rfl (lv_at hl 2 rfl) ?_
      refine lv_bipush (v := 16) hx hb dX3_odds_12 (by decide) ?_
      refine lv_icmp_gt (tgt := 26) hx hb dX3_odds_14 (by decide) (fun c5 => ?_) (fun c5 => ?_)
      · have hf := it_t c5 hf
        refine lv_ldc2 hx hb hown (hts _ kc_X3_194) dX3_odds_26 ?_
        obtain ⟨rfl, rfl⟩ := zq_j2 hf
        exact hret _ _ _ _ dX3_odds_29 hP hD hS
      · have hf := it_f c5 hf
        refine lv_iload_n hx hb dX3_odds_17 rfl (lv_at hl 3 rfl) ?_
        refine lv_if_lt (tgt := 26) hx hb dX3_odds_18 (by decide) (fun c6 => ?_) (fun c6 => ?_)
        · have hf := it_t c6 hf
          refine lv_ldc2 hx hb hown (hts _ kc_X3_194) dX3_odds_26 ?_
          obtain ⟨rfl, rfl⟩ := zq_j2 hf
          exact hret _ _ _ _ dX3_odds_29 hP hD hS
        · have hf := it_f c6 hf
          refine lv_iload_n hx hb dX3_odds_21 rfl (lv_at hl 3 rfl) ?_
          refine lv_iconst (v := 1) hx hb dX3_odds_22 (by decide) ?_
          refine lv_icmp_le (tgt := 30) hx hb dX3_odds_23 (by decide) (fun c7 => ?_) (fun c7 => ?_)
          · have hf := it_t c7 hf
            refine lv_aload_n hx hb dX3_odds_30 rfl (lv_at hl 0 rfl) ?_
            refine gf_X3_20 C0 hP 0 wdX_0 rfl dX3_odds_31 ?_
            obtain ⟨r9, hc8, hf⟩ := zq_b1_s hf
            refine zVI (ws' := (wdX ad cy o s n t r w)) (rest := []) C0 (fun _ h => h) fX_n (c_X2_stands (ad := fun j => ad (10 + j)) hc8) hP hD hS my_X2_stands kl_X3_125 ⟨rfl, rfl⟩ ⟨Nat.le_of_ble_eq_true rfl, Nat.le_of_ble_eq_true rfl⟩ (q0 := 10) (ci := 2) rfl wdX_10 rfl hl.1 rfl (Nat.le_of_ble_eq_true rfl) dX3_odds_34 ⟨Nat.zero_le _, Nat.zero_le _⟩ (fun H locs hP hD hS => ?_)
            refine lv_if_ne (tgt := 44) hx hb dX3_odds_37 (by decide) (fun c10 => ?_) (fun c10 => ?_)
            · have hf := it_f c10 hf
              refine lv_aload_n hx hb dX3_odds_44 rfl (lv_at hl 0 rfl) ?_
              refine lv_aload_n hx hb dX3_odds_45 rfl (lv_at hl 0 rfl) ?_
              refine gf_X3_20 C0 hP 0 wdX_0 rfl dX3_odds_46 ?_
              refine gf_X3_139 C0 hP 10 wdX_10 rfl dX3_odds_49 ?_
              refine lv_iload_n hx hb dX3_odds_52 rfl (lv_at hl 1 rfl) ?_
              obtain ⟨v11, ev11, h12, hf⟩ := zq_rd_s hf
              refine zia C0 hP 17 wdX_17 ev11 h12 dX3_odds_53 ?_
              obtain ⟨w14, hc13, hf⟩ := zq_b1_s hf
              refine zVV (ws' := (wdX ad cy o s n t r w14)) (rest := []) C0 (fun _ h => h) zF.id (c_X3_countWays hc13) hP hD hS my_X3_countWays kl_X3_196 ⟨rfl, rfl⟩ ⟨Nat.le_of_ble_eq_true rfl, Nat.le_of_ble_eq_true rfl⟩ (q0 := 0) (ci := 3) rfl wdX_0 rfl hl.1 rfl (Nat.le_of_ble_eq_true rfl) dX3_odds_54 ⟨Nat.zero_le _, Nat.zero_le _⟩ (fun H locs hP hD hS => ?_)
              refine lv_lconst (v := 0) hx hb dX3_odds_57 (by decide) ?_
              refine lv_lstore (lv' := [(4, .long 0), (0, .ref (ad 0)), (1, .int x1), (2, .int x2), (3, .int x3)]) hx hb dX3_odds_58 hl (by decide) rfl (fun ls hl => ?_)
              refine lv_lconst (v := 0) hx hb dX3_odds_60 (by decide) ?_
              refine lv_lstore (lv' := [(6, .long 0), (4, .long 0), (0, .ref (ad 0)), (1, .int x1), (2, .int x2), (3, .int x3)]) hx hb dX3_odds_61 hl (by decide) rfl (fun ls hl => ?_)
              refine lv_iconst (v := 0) hx hb dX3_odds_63 (by decide) ?_
              refine lv_istore (lv' := [(8, .int 0), (6, .long 0), (4, .long 0), (0, .ref (ad 0)), (1, .int x1), (2, .int x2), (3, .int x3)]) hx hb dX3_odds_64 hl (by decide) rfl (fun ls hl => ?_)
              obtain ⟨y22, y23, hL21, hf⟩ := zq_b2_s hf
              refine w_X3_odds_L66 C0 (fun H locs ls hP hD hS hl => ?_) 100 0 0 0 hL21 _ _ _ hP hD hS (lv_sub hl [3, 5, 6, 2, 1, 0] rfl)
              refine lv_lload hx hb dX3_odds_109 (lv_at hl 1 rfl) ?_
              refine lv_lload hx hb dX3_odds_111 (lv_at hl 2 rfl) ?_
              obtain ⟨r25, hc24, hf⟩ := zq_b1_s hf
              refine zSL (ws' := (wdX ad cy o s n t r w14)) (rest := []) C0 (fun _ h => h) zF.nil (c_X3_greatestDivisor hc24) hP hD hS my_X3_greatestDivisor kl_X3_199 ⟨rfl, rfl⟩ ⟨Nat.le_of_ble_eq_true rfl, Nat.le_of_ble_eq_true rfl⟩ rfl hl.1 rfl (Nat.le_of_ble_eq_true rfl) dX3_odds_113 ⟨Nat.zero_le _, Nat.zero_le _⟩ (fun H locs hP hD hS => ?_)
              refine lv_lstore (lv' := [(8, .long r25), (3, .int x3), (4, .long y22), (6, .long y23)]) hx hb dX3_odds_116 hl (by decide) rfl (fun ls hl => ?_)
              refine lv_lload hx hb dX3_odds_118 (lv_at hl 0 rfl) ?_
              refine lv_lconst (v := 0) hx hb dX3_odds_120 (by decide) ?_
              refine W.lcmp hx hb dX3_odds_121 ?_
              refine lv_if_ne (tgt := 129) hx hb dX3_odds_122 (by decide) (fun c26 => ?_) (fun c26 => ?_)
              · have hf := it_f c26 hf
                refine lv_iload_n hx hb dX3_odds_129 rfl (lv_at hl 1 rfl) ?_
                refine lv_if_ne (tgt := 138) hx hb dX3_odds_130 (by decide) (fun c27 => ?_) (fun c27 => ?_)
                · have hf := it_f c27 hf
                  refine lv_lload hx hb dX3_odds_138 (lv_at hl 3 rfl) ?_
                  refine lv_lload hx hb dX3_odds_140 (lv_at hl 0 rfl) ?_
                  obtain ⟨h28, hf⟩ := zq_dl_s hf
                  refine lv_ldiv hx hb dX3_odds_142 h28 ?_
                  obtain ⟨rfl, rfl⟩ := zq_j2 hf
                  exact hret _ _ _ _ dX3_odds_143 hP hD hS
                · have hf := it_t c27 hf
                  refine lv_lload hx hb dX3_odds_133 (lv_at hl 2 rfl) ?_
                  refine lv_goto (tgt := 140) hx hb dX3_odds_135 (by decide) ?_
                  refine lv_lload hx hb dX3_odds_140 (lv_at hl 0 rfl) ?_
                  obtain ⟨h29, hf⟩ := zq_dl_s hf
                  refine lv_ldiv hx hb dX3_odds_142 h29 ?_
                  obtain ⟨rfl, rfl⟩ := zq_j2 hf
                  exact hret _ _ _ _ dX3_odds_143 hP hD hS
              · have hf := it_t c26 hf
                refine lv_ldc2 hx hb hown (hts _ kc_X3_194) dX3_odds_125 ?_
                obtain ⟨rfl, rfl⟩ := zq_j2 hf
                exact hret _ _ _ _ dX3_odds_128 hP hD hS
            · have hf := it_t c10 hf
              refine lv_ldc2 hx hb hown (hts _ kc_X3_194) dX3_odds_40 ?_
              obtain ⟨rfl, rfl⟩ := zq_j2 hf
              exact hret _ _ _ _ dX3_odds_43 hP hD hS
          · have hf := it_f c7 hf
            refine lv_ldc2 hx hb hown (hts _ kc_X3_194) dX3_odds_26 ?_
            obtain ⟨rfl, rfl⟩ := zq_j2 hf
            exact hret _ _ _ _ dX3_odds_29 hP hD hS

def f_X3_sheet (o : zS) (s : zS4) (x1 : Int32) (x2 : Int32) (x3 : Int32) : Option (Int32 × zS × zS4) :=
  zq_lt (va_up o 6 (fun _ => 0)) (fun o1 =>
  zq_b1 (f_X3_isSheet x1) (fun r3 =>
  if r3 = 0 then (
  some ((-1), o1, s)) else (
  zq_b1 (f_X3_isLane x2) (fun r6 =>
  if r6 = 0 then (
  some ((-2), o1, s)) else (
  if x3 ≤ 60 then (
  if 0 ≤ x3 then (
  zq_in 4 x1 (
  zq_b1 (f_X1_begin (s (Int32.toNatClampNeg x1)) x2 x3) (fun m13 =>
  zq_lt (va_up s (Int32.toNatClampNeg x1) m13) (fun s14 =>
  some (1, o1, s14))))) else (
  zq_b2 (f_X3_faulted o1 4) (fun r16 o17 =>
  some (r16, o17, s)))) else (
  some ((-2), o1, s)))))))
set_option maxHeartbeats 4000000 in
set_option maxRecDepth 100000 in
theorem c_X3_sheet {l : Launch} {D : va_G} {ad : Nat → Nat} {cy : Nat → ClassId} {o : zS} {s : zS4} {n : zS} {t : zS} {r : zS} {w : zJ} {x1 : Int32} {x2 : Int32} {x3 : Int32} {r0 : Int32} {o' : zS} {s' : zS4} (hf : f_X3_sheet o s x1 x2 x3 = some (r0, o', s')) : zMI l yX3_sheet (zW yX3_sheet cX3_sheet 4 (some .int)) { frames := 2, cells := 0, slots := 0, locals := 45 } D cy [.ref (ad 0), .int x1, .int x2, .int x3] (wdX ad cy o s n t r w) r0 (wdX ad cy o' s' n t r w) := by
  unfold f_X3_sheet at hf
  refine zEI (ty := .int) (by decide) (Nat.le_of_ble_eq_true rfl) ?_
  intro p e s9 m9 below meth c A Q C0 hret ls hl hP hD
  have hl : lv_has ls 4 [(0, .ref (ad 0)), (1, .int x1), (2, .int x2), (3, .int x3)] := hl
  have hS : va_S A s9.heap s9.heap [] := va_S.rf
  obtain ⟨hx, hb, hml, hown, hts⟩ := id C0.1
  refine lv_aload_n hx hb dX3_sheet_0 rfl (lv_at hl 0 rfl) ?_
  refine lv_iconst (v := 0) hx hb dX3_sheet_1 (by decide) ?_
  obtain ⟨o1, eo1, hf⟩ := zq_lt_s hf
  refine pf_X3_42 (ws' := (wdX ad cy o1 s n t r w)) C0 hP hD hS 0 wdX_0 (Nat.le_of_ble_eq_true rfl) (by rw [eo1]; rfl) dX3_sheet_2 (fun H locs hP hD hS => ?_)
  refine lv_iload_n hx hb dX3_sheet_5 rfl (lv_at hl 1 rfl) ?_
  obtain ⟨r3, hc2, hf⟩ := zq_b1_s hf
  refine zSI (ws' := (wdX ad cy o1 s n t r w)) (rest := []) C0 (fun _ h => h) zF.nil (c_X3_isSheet hc2) hP hD hS my_X3_isSheet kl_X3_46 ⟨rfl, rfl⟩ ⟨Nat.le_of_ble_eq_true rfl, Nat.le_of_ble_eq_true rfl⟩ rfl hl.1 rfl (Nat.le_of_ble_eq_true rfl) dX3_sheet_6 ⟨Nat.zero_le _, Nat.zero_le _⟩ (fun H locs hP hD hS => ?_)
  refine lv_if_ne (tgt := 14) hx hb dX3_sheet_9 (by decide) (fun c4 => ?_) (fun c4 => ?_)
  · have hf := it_f c4 hf
    refine lv_iload_n hx hb dX3_sheet_14 rfl (lv_at hl 2 rfl) ?_
    obtain ⟨r6, hc5, hf⟩ := zq_b1_s hf
    refine zSI (ws' := (wdX ad cy o1 s n t r w)) (rest := []) C0 (fun _ h => h) zF.nil (c_X3_isLane hc5) hP hD hS my_X3_isLane kl_X3_50 ⟨rfl, rfl⟩ ⟨Nat.le_of_ble_eq_true rfl, Nat.le_of_ble_eq_true rfl⟩ rfl hl.1 rfl (Nat.le_of_ble_eq_true rfl) dX3_sheet_15 ⟨Nat.zero_le _, Nat.zero_le _⟩ (fun H locs hP hD hS => ?_)
    refine lv_if_eq (tgt := 27) hx hb dX3_sheet_18 (by decide) (fun c7 => ?_) (fun c7 => ?_)
    · have hf := it_t c7 hf
      refine lv_bipush (v := (-2)) hx hb dX3_sheet_27 (by decide) ?_
      obtain ⟨rfl, rfl, rfl⟩ := zq_j3 hf
      exact hret _ _ _ _ rfl dX3_sheet_29 hP hD hS
    · have hf := it_f c7 hf
      refine lv_iload_n hx hb dX3_sheet_21 rfl (lv_at hl 3 rfl) ?_
      refine lv_bipush (v := 60) hx hb dX3_sheet_22 (by decide) ?_
      refine lv_icmp_le (tgt := 30) hx hb dX3_sheet_24 (by decide) (fun c8 => ?_) (fun c8 => ?_)
      · have hf := it_t c8 hf
        refine lv_iload_n hx hb dX3_sheet_30 rfl (lv_at hl 3 rfl) ?_
        refine lv_if_ge (tgt := 40) hx hb dX3_sheet_31 (by decide) (fun c9 => ?_) (fun c9 => ?_)
        · have hf := it_t c9 hf
          refine lv_aload_n hx hb dX3_sheet_40 rfl (lv_at hl 0 rfl) ?_
          refine gf_X3_13 C0 hP 0 wdX_0 rfl dX3_sheet_41 ?_
          refine lv_iload_n hx hb dX3_sheet_44 rfl (lv_at hl 1 rfl) ?_
          obtain ⟨h10, hf⟩ := zq_in_s hf
          have hk11 := vp_lt h10
          refine zra C0 hP 1 wdX_1 (zRw_at hk11) h10 dX3_sheet_45 ?_
          refine lv_iload_n hx hb dX3_sheet_46 rfl (lv_at hl 2 rfl) ?_
          refine lv_iload_n hx hb dX3_sheet_47 rfl (lv_at hl 3 rfl) ?_
          obtain ⟨m13, hc12, hf⟩ := zq_b1_s hf
          obtain ⟨s14, es14, hf⟩ := zq_lt_s hf
          refine zVV (ws' := (wdX ad cy o1 s14 n t r w)) (rest := []) C0 (fun _ h => h) (by rw [es14]; exact (fX_s hk11)) (c_X1_begin (ad := fun j => ad (2 + 2 * (Int32.toNatClampNeg x1) + j)) hc12) hP hD hS my_X1_begin kl_X3_203 ⟨rfl, rfl⟩ ⟨Nat.le_of_ble_eq_true rfl, Nat.le_of_ble_eq_true rfl⟩ (q0 := (2 + 2 * (Int32.toNatClampNeg x1))) (ci := 1) rfl (wdX_sh hk11) rfl hl.1 rfl (Nat.le_of_ble_eq_true rfl) dX3_sheet_48 ⟨Nat.zero_le _, Nat.zero_le _⟩ (fun H locs hP hD hS => ?_)
          refine lv_iconst (v := 1) hx hb dX3_sheet_51 (by decide) ?_
          obtain ⟨rfl, rfl, rfl⟩ := zq_j3 hf
          exact hret _ _ _ _ rfl dX3_sheet_52 hP hD hS
        · have hf := it_f c9 hf
          refine lv_aload_n hx hb dX3_sheet_34 rfl (lv_at hl 0 rfl) ?_
          refine lv_iconst (v := 4) hx hb dX3_sheet_35 (by decide) ?_
          obtain ⟨r16, o17, hc15, hf⟩ := zq_b2_s hf
          refine zVI (ws' := (wdX ad cy o17 s n t r w)) (rest := []) C0 (fun _ h => h) zF.id (c_X3_faulted hc15) hP hD hS my_X3_faulted kl_X3_57 ⟨rfl, rfl⟩ ⟨Nat.le_of_ble_eq_true rfl, Nat.le_of_ble_eq_true rfl⟩ (q0 := 0) (ci := 3) rfl wdX_0 rfl hl.1 rfl (Nat.le_of_ble_eq_true rfl) dX3_sheet_36 ⟨Nat.zero_le _, Nat.zero_le _⟩ (fun H locs hP hD hS => ?_)
          obtain ⟨rfl, rfl, rfl⟩ := zq_j3 hf
          exact hret _ _ _ _ rfl dX3_sheet_39 hP hD hS
      · have hf := it_f c8 hf
        refine lv_bipush (v := (-2)) hx hb dX3_sheet_27 (by decide) ?_
        obtain ⟨rfl, rfl, rfl⟩ := zq_j3 hf
        exact hret _ _ _ _ rfl dX3_sheet_29 hP hD hS
  · have hf := it_t c4 hf
    refine lv_iconst (v := (-1)) hx hb dX3_sheet_12 (by decide) ?_
    obtain ⟨rfl, rfl, rfl⟩ := zq_j3 hf
    exact hret _ _ _ _ rfl dX3_sheet_13 hP hD hS

def f_X3_lose (s : zS4) (x1 : Int32) : Option (Int32 × zS4) :=
  zq_b1 (f_X3_isSheet x1) (fun r2 =>
  if r2 = 0 then (
  some ((-1), s)) else (
  zq_in 4 x1 (
  zq_in 4 x1 (
  zq_lt (va_up s (Int32.toNatClampNeg x1) (va_up (s (Int32.toNatClampNeg x1)) 1 (fun _ => 0))) (fun s8 =>
  if (s (Int32.toNatClampNeg x1) 1 0) = 0 then (
  some (0, s8)) else (
  some (1, s8)))))))
set_option maxHeartbeats 4000000 in
set_option maxRecDepth 100000 in
theorem c_X3_lose {l : Launch} {D : va_G} {ad : Nat → Nat} {cy : Nat → ClassId} {o : zS} {s : zS4} {n : zS} {t : zS} {r : zS} {w : zJ} {x1 : Int32} {r0 : Int32} {s' : zS4} (hf : f_X3_lose s x1 = some (r0, s')) : zMI l yX3_lose (zW yX3_lose cX3_lose 3 (some .int)) { frames := 1, cells := 0, slots := 0, locals := 20 } D cy [.ref (ad 0), .int x1] (wdX ad cy o s n t r w) r0 (wdX ad cy o s' n t r w) := by
  unfold f_X3_lose at hf
  refine zEI (ty := .int) (by decide) (Nat.le_of_ble_eq_true rfl) ?_
  intro p e s9 m9 below meth c A Q C0 hret ls hl hP hD
  have hl : lv_has ls 3 [(0, .ref (ad 0)), (1, .int x1)] := hl
  have hS : va_S A s9.heap s9.heap [] := va_S.rf
  obtain ⟨hx, hb, hml, hown, hts⟩ := id C0.1
  refine lv_iload_n hx hb dX3_lose_0 rfl (lv_at hl 1 rfl) ?_
  obtain ⟨r2, hc1, hf⟩ := zq_b1_s hf
  refine zSI (ws' := (wdX ad cy o s n t r w)) (rest := []) C0 (fun _ h => h) zF.nil (c_X3_isSheet hc1) hP hD hS my_X3_isSheet kl_X3_46 ⟨rfl, rfl⟩ ⟨Nat.le_of_ble_eq_true rfl, Nat.le_of_ble_eq_true rfl⟩ rfl hl.1 rfl (Nat.le_of_ble_eq_true rfl) dX3_lose_1 ⟨Nat.zero_le _, Nat.zero_le _⟩ (fun H locs hP hD hS => ?_)
  refine lv_if_ne (tgt := 9) hx hb dX3_lose_4 (by decide) (fun c3 => ?_) (fun c3 => ?_)
  · have hf := it_f c3 hf
    refine lv_aload_n hx hb dX3_lose_9 rfl (lv_at hl 0 rfl) ?_
    refine gf_X3_13 C0 hP 0 wdX_0 rfl dX3_lose_10 ?_
    refine lv_iload_n hx hb dX3_lose_13 rfl (lv_at hl 1 rfl) ?_
    obtain ⟨h4, hf⟩ := zq_in_s hf
    have hk5 := vp_lt h4
    refine zra C0 hP 1 wdX_1 (zRw_at hk5) h4 dX3_lose_14 ?_
    refine gf_X3_207 C0 hP (2 + 2 * (Int32.toNatClampNeg x1)) (wdX_sh hk5) rfl dX3_lose_15 ?_
    refine lv_istore_n (lv' := [(2, .int (s (Int32.toNatClampNeg x1) 1 0)), (0, .ref (ad 0)), (1, .int x1)]) hx hb dX3_lose_18 rfl hl (by decide) rfl (fun ls hl => ?_)
    refine lv_aload_n hx hb dX3_lose_19 rfl (lv_at hl 1 rfl) ?_
    refine gf_X3_13 C0 hP 0 wdX_0 rfl dX3_lose_20 ?_
    refine lv_iload_n hx hb dX3_lose_23 rfl (lv_at hl 2 rfl) ?_
    obtain ⟨h6, hf⟩ := zq_in_s hf
    have hk7 := vp_lt h6
    refine zra C0 hP 1 wdX_1 (zRw_at hk7) h6 dX3_lose_24 ?_
    refine lv_iconst (v := 0) hx hb dX3_lose_25 (by decide) ?_
    obtain ⟨s8, es8, hf⟩ := zq_lt_s hf
    refine pf_X3_207 (ws' := (wdX ad cy o s8 n t r w)) C0 hP hD hS (2 + 2 * (Int32.toNatClampNeg x1)) (wdX_sh hk7) (by decide) (Nat.le_of_ble_eq_true rfl) (by rw [es8]; exact wdX_sf1 hk7 _) dX3_lose_26 (fun H locs hP hD hS => ?_)
    refine lv_iload_n hx hb dX3_lose_29 rfl (lv_at hl 0 rfl) ?_
    refine lv_if_eq (tgt := 37) hx hb dX3_lose_30 (by decide) (fun c9 => ?_) (fun c9 => ?_)
    · have hf := it_t c9 hf
      refine lv_iconst (v := 0) hx hb dX3_lose_37 (by decide) ?_
      obtain ⟨rfl, rfl⟩ := zq_j2 hf
      exact hret _ _ _ _ rfl dX3_lose_38 hP hD hS
    · have hf := it_f c9 hf
      refine lv_iconst (v := 1) hx hb dX3_lose_33 (by decide) ?_
      refine lv_goto (tgt := 38) hx hb dX3_lose_34 (by decide) ?_
      obtain ⟨rfl, rfl⟩ := zq_j2 hf
      exact hret _ _ _ _ rfl dX3_lose_38 hP hD hS
  · have hf := it_t c3 hf
    refine lv_iconst (v := (-1)) hx hb dX3_lose_7 (by decide) ?_
    obtain ⟨rfl, rfl⟩ := zq_j2 hf
    exact hret _ _ _ _ rfl dX3_lose_8 hP hD hS

def f_X3_put (o : zS) (s : zS4) (x1 : Int32) (x2 : Int32) (x3 : Int32) : Option (Int32 × zS × zS4) :=
  zq_lt (va_up o 6 (fun _ => 0)) (fun o1 =>
  zq_b1 (f_X3_isSheet x1) (fun r3 =>
  if r3 = 0 then (
  some ((-1), o1, s)) else (
  zq_in 4 x1 (
  zq_b1 (f_X1_faultOfCells (s (Int32.toNatClampNeg x1)) (s (Int32.toNatClampNeg x1) 2 0) x2 1) (fun r8 =>
  if r8 = 0 then (
  zq_b1 (f_X1_cutToLane (s (Int32.toNatClampNeg x1)) x3) (fun r11 =>
  zq_in 60 x2 (zq_lt (va_up s (Int32.toNatClampNeg x1) (va_up (s (Int32.toNatClampNeg x1)) 0 (upd (s (Int32.toNatClampNeg x1) 0) (Int32.toNatClampNeg x2) r11))) (fun s13 =>
  some (1, o1, s13))))) else (
  zq_b2 (f_X3_faulted o1 r8) (fun r15 o16 =>
  some (r15, o16, s))))))))
set_option maxHeartbeats 4000000 in
set_option maxRecDepth 100000 in
theorem c_X3_put {l : Launch} {D : va_G} {ad : Nat → Nat} {cy : Nat → ClassId} {o : zS} {s : zS4} {n : zS} {t : zS} {r : zS} {w : zJ} {x1 : Int32} {x2 : Int32} {x3 : Int32} {r0 : Int32} {o' : zS} {s' : zS4} (hf : f_X3_put o s x1 x2 x3 = some (r0, o', s')) : zMI l yX3_put (zW yX3_put cX3_put 6 (some .int)) { frames := 2, cells := 0, slots := 0, locals := 45 } D cy [.ref (ad 0), .int x1, .int x2, .int x3] (wdX ad cy o s n t r w) r0 (wdX ad cy o' s' n t r w) := by
  unfold f_X3_put at hf
  refine zEI (ty := .int) (by decide) (Nat.le_of_ble_eq_true rfl) ?_
  intro p e s9 m9 below meth c A Q C0 hret ls hl hP hD
  have hl : lv_has ls 6 [(0, .ref (ad 0)), (1, .int x1), (2, .int x2), (3, .int x3)] := hl
  have hS : va_S A s9.heap s9.heap [] := va_S.rf
  obtain ⟨hx, hb, hml, hown, hts⟩ := id C0.1
  refine lv_aload_n hx hb dX3_put_0 rfl (lv_at hl 0 rfl) ?_
  refine lv_iconst (v := 0) hx hb dX3_put_1 (by decide) ?_
  obtain ⟨o1, eo1, hf⟩ := zq_lt_s hf
  refine pf_X3_42 (ws' := (wdX ad cy o1 s n t r w)) C0 hP hD hS 0 wdX_0 (Nat.le_of_ble_eq_true rfl) (by rw [eo1]; rfl) dX3_put_2 (fun H locs hP hD hS => ?_)
  refine lv_iload_n hx hb dX3_put_5 rfl (lv_at hl 1 rfl) ?_
  obtain ⟨r3, hc2, hf⟩ := zq_b1_s hf
  refine zSI (ws' := (wdX ad cy o1 s n t r w)) (rest := []) C0 (fun _ h => h) zF.nil (c_X3_isSheet hc2) hP hD hS my_X3_isSheet kl_X3_46 ⟨rfl, rfl⟩ ⟨Nat.le_of_ble_eq_true rfl, Nat.le_of_ble_eq_true rfl⟩ rfl hl.1 rfl (Nat.le_of_ble_eq_true rfl) dX3_put_6 ⟨Nat.zero_le _, Nat.zero_le _⟩ (fun H locs hP hD hS => ?_)
  refine lv_if_ne (tgt := 14) hx hb dX3_put_9 (by decide) (fun c4 => ?_) (fun c4 => ?_)
  · have hf := it_f c4 hf
    refine lv_aload_n hx hb dX3_put_14 rfl (lv_at hl 0 rfl) ?_
    refine gf_X3_13 C0 hP 0 wdX_0 rfl dX3_put_15 ?_
    refine lv_iload_n hx hb dX3_put_18 rfl (lv_at hl 1 rfl) ?_
    obtain ⟨h5, hf⟩ := zq_in_s hf
    have hk6 := vp_lt h5
    refine zra C0 hP 1 wdX_1 (zRw_at hk6) h5 dX3_put_19 ?_
    refine lv_astore (lv' := [(4, .ref (ad (2 + 2 * (Int32.toNatClampNeg x1)))), (0, .ref (ad 0)), (1, .int x1), (2, .int x2), (3, .int x3)]) hx hb dX3_put_20 hl (by decide) rfl (fun ls hl => ?_)
    refine lv_aload hx hb dX3_put_22 (lv_at hl 0 rfl) ?_
    refine lv_aload hx hb dX3_put_24 (lv_at hl 0 rfl) ?_
    refine gf_X3_211 C0 hP (2 + 2 * (Int32.toNatClampNeg x1)) (wdX_sh hk6) rfl dX3_put_26 ?_
    refine lv_iload_n hx hb dX3_put_29 rfl (lv_at hl 3 rfl) ?_
    refine lv_iconst (v := 1) hx hb dX3_put_30 (by decide) ?_
    obtain ⟨r8, hc7, hf⟩ := zq_b1_s hf
    refine zVI (ws' := (wdX ad cy o1 s n t r w)) (rest := []) C0 (fun _ h => h) (fX_s0 hk6) (c_X1_faultOfCells (ad := fun j => ad (2 + 2 * (Int32.toNatClampNeg x1) + j)) hc7) hP hD hS my_X1_faultOfCells kl_X3_53 ⟨rfl, rfl⟩ ⟨Nat.le_of_ble_eq_true rfl, Nat.le_of_ble_eq_true rfl⟩ (q0 := (2 + 2 * (Int32.toNatClampNeg x1))) (ci := 1) rfl (wdX_sh hk6) rfl hl.1 rfl (Nat.le_of_ble_eq_true rfl) dX3_put_31 ⟨Nat.zero_le _, Nat.zero_le _⟩ (fun H locs hP hD hS => ?_)
    refine lv_istore (lv' := [(5, .int r8), (4, .ref (ad (2 + 2 * (Int32.toNatClampNeg x1)))), (0, .ref (ad 0)), (1, .int x1), (2, .int x2), (3, .int x3)]) hx hb dX3_put_34 hl (by decide) rfl (fun ls hl => ?_)
    refine lv_iload hx hb dX3_put_36 (lv_at hl 0 rfl) ?_
    refine lv_if_eq (tgt := 48) hx hb dX3_put_38 (by decide) (fun c9 => ?_) (fun c9 => ?_)
    · have hf := it_t c9 hf
      refine lv_aload hx hb dX3_put_48 (lv_at hl 1 rfl) ?_
      refine gf_X3_167 C0 hP (2 + 2 * (Int32.toNatClampNeg x1)) (wdX_sh hk6) rfl dX3_put_50 ?_
      refine lv_iload_n hx hb dX3_put_53 rfl (lv_at hl 4 rfl) ?_
      refine lv_aload hx hb dX3_put_54 (lv_at hl 1 rfl) ?_
      refine lv_iload_n hx hb dX3_put_56 rfl (lv_at hl 5 rfl) ?_
      obtain ⟨r11, hc10, hf⟩ := zq_b1_s hf
      refine zVI (ws' := (wdX ad cy o1 s n t r w)) (rest := [.int x2, .ref (ad (2 + 2 * (Int32.toNatClampNeg x1) + 1))]) C0 (fun _ h => h) (fX_s0 hk6) (c_X1_cutToLane (ad := fun j => ad (2 + 2 * (Int32.toNatClampNeg x1) + j)) hc10) hP hD hS my_X1_cutToLane kl_X3_214 ⟨rfl, rfl⟩ ⟨Nat.le_of_ble_eq_true rfl, Nat.le_of_ble_eq_true rfl⟩ (q0 := (2 + 2 * (Int32.toNatClampNeg x1))) (ci := 1) rfl (wdX_sh hk6) rfl hl.1 rfl (Nat.le_of_ble_eq_true rfl) dX3_put_57 ⟨Nat.zero_le _, Nat.zero_le _⟩ (fun H locs hP hD hS => ?_)
      obtain ⟨h12, hf⟩ := zq_in_s hf
      obtain ⟨s13, es13, hf⟩ := zq_lt_s hf
      refine zis (ws' := (wdX ad cy o1 s13 n t r w)) C0 hP hD hS (2 + 2 * (Int32.toNatClampNeg x1) + 1) (wdX_sc hk6) h12 (by rw [es13]; exact wdX_ss hk6 _) dX3_put_60 (fun H locs hP hD hS => ?_)
      refine lv_iconst (v := 1) hx hb dX3_put_61 (by decide) ?_
      obtain ⟨rfl, rfl, rfl⟩ := zq_j3 hf
      exact hret _ _ _ _ rfl dX3_put_62 hP hD hS
    · have hf := it_f c9 hf
      refine lv_aload_n hx hb dX3_put_41 rfl (lv_at hl 2 rfl) ?_
      refine lv_iload hx hb dX3_put_42 (lv_at hl 0 rfl) ?_
      obtain ⟨r15, o16, hc14, hf⟩ := zq_b2_s hf
      refine zVI (ws' := (wdX ad cy o16 s n t r w)) (rest := []) C0 (fun _ h => h) zF.id (c_X3_faulted hc14) hP hD hS my_X3_faulted kl_X3_57 ⟨rfl, rfl⟩ ⟨Nat.le_of_ble_eq_true rfl, Nat.le_of_ble_eq_true rfl⟩ (q0 := 0) (ci := 3) rfl wdX_0 rfl hl.1 rfl (Nat.le_of_ble_eq_true rfl) dX3_put_44 ⟨Nat.zero_le _, Nat.zero_le _⟩ (fun H locs hP hD hS => ?_)
      obtain ⟨rfl, rfl, rfl⟩ := zq_j3 hf
      exact hret _ _ _ _ rfl dX3_put_47 hP hD hS
  · have hf := it_t c4 hf
    refine lv_iconst (v := (-1)) hx hb dX3_put_12 (by decide) ?_
    obtain ⟨rfl, rfl, rfl⟩ := zq_j3 hf
    exact hret _ _ _ _ rfl dX3_put_13 hP hD hS

def f_X3_cell (o : zS) (s : zS4) (x1 : Int32) (x2 : Int32) (x3 : Int32) : Option (Int64 × zS) :=
  zq_lt (va_up o 6 (fun _ => 0)) (fun o1 =>
  zq_b1 (f_X3_isSheet x1) (fun r3 =>
  if r3 = 0 then (
  some ((-9223372036854775808), o1)) else (
  zq_b1 (f_X3_isLane x3) (fun r6 =>
  if r6 = 0 then (
  some ((-9223372036854775808), o1)) else (
  zq_in 4 x1 (
  zq_b1 (f_X1_faultOfCells (s (Int32.toNatClampNeg x1)) x3 x2 1) (fun r11 =>
  zq_lt (va_up o1 6 (fun _ => r11)) (fun o12 =>
  if (o12 6 0) = 0 then (
  zq_rd (s (Int32.toNatClampNeg x1) 0) 60 x2 (fun v14 =>
  some ((Int32.toInt64 v14), o12))) else (
  some ((-9223372036854775808), o12))))))))))
set_option maxHeartbeats 4000000 in
set_option maxRecDepth 100000 in
theorem c_X3_cell {l : Launch} {D : va_G} {ad : Nat → Nat} {cy : Nat → ClassId} {o : zS} {s : zS4} {n : zS} {t : zS} {r : zS} {w : zJ} {x1 : Int32} {x2 : Int32} {x3 : Int32} {r0 : Int64} {o' : zS} (hf : f_X3_cell o s x1 x2 x3 = some (r0, o')) : zML l yX3_cell (zW yX3_cell cX3_cell 5 (some .long)) { frames := 2, cells := 0, slots := 0, locals := 45 } D cy [.ref (ad 0), .int x1, .int x2, .int x3] (wdX ad cy o s n t r w) r0 (wdX ad cy o' s n t r w) := by
  unfold f_X3_cell at hf
  refine zEL (by decide) (Nat.le_of_ble_eq_true rfl) ?_
  intro p e s9 m9 below meth c A Q C0 hret ls hl hP hD
  have hl : lv_has ls 5 [(0, .ref (ad 0)), (1, .int x1), (2, .int x2), (3, .int x3)] := hl
  have hS : va_S A s9.heap s9.heap [] := va_S.rf
  obtain ⟨hx, hb, hml, hown, hts⟩ := id C0.1
  refine lv_aload_n hx hb dX3_cell_0 rfl (lv_at hl 0 rfl) ?_
  refine lv_iconst (v := 0) hx hb dX3_cell_1 (by decide) ?_
  obtain ⟨o1, eo1, hf⟩ := zq_lt_s hf
  refine pf_X3_42 (ws' := (wdX ad cy o1 s n t r w)) C0 hP hD hS 0 wdX_0 (Nat.le_of_ble_eq_true rfl) (by rw [eo1]; rfl) dX3_cell_2 (fun H locs hP hD hS => ?_)
  refine lv_iload_n hx hb dX3_cell_5 rfl (lv_at hl 1 rfl) ?_
  obtain ⟨r3, hc2, hf⟩ := zq_b1_s hf
  refine zSI (ws' := (wdX ad cy o1 s n t r w)) (rest := []) C0 (fun _ h => h) zF.nil (c_X3_isSheet hc2) hP hD hS my_X3_isSheet kl_X3_46 ⟨rfl, rfl⟩ ⟨Nat.le_of_ble_eq_true rfl, Nat.le_of_ble_eq_true rfl⟩ rfl hl.1 rfl (Nat.le_of_ble_eq_true rfl) dX3_cell_6 ⟨Nat.zero_le _, Nat.zero_le _⟩ (fun H locs hP hD hS => ?_)
  refine lv_if_eq (tgt := 19) hx hb dX3_cell_9 (by decide) (fun c4 => ?_) (fun c4 => ?_)
  · have hf := it_t c4 hf
    refine lv_ldc2 hx hb hown (hts _ kc_X3_194) dX3_cell_19 ?_
    obtain ⟨rfl, rfl⟩ := zq_j2 hf
    exact hret _ _ _ _ dX3_cell_22 hP hD hS
  · have hf := it_f c4 hf
    refine lv_iload_n hx hb dX3_cell_12 rfl (lv_at hl 3 rfl) ?_
    obtain ⟨r6, hc5, hf⟩ := zq_b1_s hf
    refine zSI (ws' := (wdX ad cy o1 s n t r w)) (rest := []) C0 (fun _ h => h) zF.nil (c_X3_isLane hc5) hP hD hS my_X3_isLane kl_X3_50 ⟨rfl, rfl⟩ ⟨Nat.le_of_ble_eq_true rfl, Nat.le_of_ble_eq_true rfl⟩ rfl hl.1 rfl (Nat.le_of_ble_eq_true rfl) dX3_cell_13 ⟨Nat.zero_le _, Nat.zero_le _⟩ (fun H locs hP hD hS => ?_)
    refine lv_if_ne (tgt := 23) hx hb dX3_cell_16 (by decide) (fun c7 => ?_) (fun c7 => ?_)
    · have hf := it_f c7 hf
      refine lv_aload_n hx hb dX3_cell_23 rfl (lv_at hl 0 rfl) ?_
      refine gf_X3_13 C0 hP 0 wdX_0 rfl dX3_cell_24 ?_
      refine lv_iload_n hx hb dX3_cell_27 rfl (lv_at hl 1 rfl) ?_
      obtain ⟨h8, hf⟩ := zq_in_s hf
      have hk9 := vp_lt h8
      refine zra C0 hP 1 wdX_1 (zRw_at hk9) h8 dX3_cell_28 ?_
      refine lv_astore (lv' := [(4, .ref (ad (2 + 2 * (Int32.toNatClampNeg x1)))), (0, .ref (ad 0)), (1, .int x1), (2, .int x2), (3, .int x3)]) hx hb dX3_cell_29 hl (by decide) rfl (fun ls hl => ?_)
      refine lv_aload_n hx hb dX3_cell_31 rfl (lv_at hl 1 rfl) ?_
      refine lv_aload hx hb dX3_cell_32 (lv_at hl 0 rfl) ?_
      refine lv_iload_n hx hb dX3_cell_34 rfl (lv_at hl 4 rfl) ?_
      refine lv_iload_n hx hb dX3_cell_35 rfl (lv_at hl 3 rfl) ?_
      refine lv_iconst (v := 1) hx hb dX3_cell_36 (by decide) ?_
      obtain ⟨r11, hc10, hf⟩ := zq_b1_s hf
      refine zVI (ws' := (wdX ad cy o1 s n t r w)) (rest := [.ref (ad 0)]) C0 (fun _ h => h) (fX_s0 hk9) (c_X1_faultOfCells (ad := fun j => ad (2 + 2 * (Int32.toNatClampNeg x1) + j)) hc10) hP hD hS my_X1_faultOfCells kl_X3_53 ⟨rfl, rfl⟩ ⟨Nat.le_of_ble_eq_true rfl, Nat.le_of_ble_eq_true rfl⟩ (q0 := (2 + 2 * (Int32.toNatClampNeg x1))) (ci := 1) rfl (wdX_sh hk9) rfl hl.1 rfl (Nat.le_of_ble_eq_true rfl) dX3_cell_37 ⟨Nat.zero_le _, Nat.zero_le _⟩ (fun H locs hP hD hS => ?_)
      obtain ⟨o12, eo12, hf⟩ := zq_lt_s hf
      refine pf_X3_42 (ws' := (wdX ad cy o12 s n t r w)) C0 hP hD hS 0 wdX_0 (Nat.le_of_ble_eq_true rfl) (by rw [eo12]; rfl) dX3_cell_40 (fun H locs hP hD hS => ?_)
      refine lv_aload_n hx hb dX3_cell_43 rfl (lv_at hl 1 rfl) ?_
      refine gf_X3_42 C0 hP 0 wdX_0 rfl dX3_cell_44 ?_
      refine lv_if_eq (tgt := 56) hx hb dX3_cell_47 (by decide) (fun c13 => ?_) (fun c13 => ?_)
      · have hf := it_t c13 hf
        refine lv_aload hx hb dX3_cell_56 (lv_at hl 0 rfl) ?_
        refine gf_X3_167 C0 hP (2 + 2 * (Int32.toNatClampNeg x1)) (wdX_sh hk9) rfl dX3_cell_58 ?_
        refine lv_iload_n hx hb dX3_cell_61 rfl (lv_at hl 3 rfl) ?_
        obtain ⟨v14, ev14, h15, hf⟩ := zq_rd_s hf
        refine zia C0 hP (2 + 2 * (Int32.toNatClampNeg x1) + 1) (wdX_sc hk9) ev14 h15 dX3_cell_62 ?_
        refine lv_i2l hx hb dX3_cell_63 rfl ?_
        obtain ⟨rfl, rfl⟩ := zq_j2 hf
        exact hret _ _ _ _ dX3_cell_64 hP hD hS
      · have hf := it_f c13 hf
        refine lv_ldc2 hx hb hown (hts _ kc_X3_194) dX3_cell_50 ?_
        refine lv_goto (tgt := 64) hx hb dX3_cell_53 (by decide) ?_
        obtain ⟨rfl, rfl⟩ := zq_j2 hf
        exact hret _ _ _ _ dX3_cell_64 hP hD hS
    · have hf := it_t c7 hf
      refine lv_ldc2 hx hb hown (hts _ kc_X3_194) dX3_cell_19 ?_
      obtain ⟨rfl, rfl⟩ := zq_j2 hf
      exact hret _ _ _ _ dX3_cell_22 hP hD hS

def f_X3_copy (o : zS) (s : zS4) (x1 : Int32) (x2 : Int32) (x3 : Int32) (x4 : Int32) (x5 : Int32) : Option (Int32 × zS × zS4) :=
  zq_lt (va_up o 6 (fun _ => 0)) (fun o1 =>
  zq_b1 (f_X3_isSheet x1) (fun r3 =>
  if r3 = 0 then (
  some ((-1), o1, s)) else (
  zq_b1 (f_X3_isSheet x3) (fun r6 =>
  if r6 = 0 then (
  some ((-1), o1, s)) else (
  zq_in 4 x1 (
  zq_in 4 x3 (
  if (s (Int32.toNatClampNeg x1) 1 0) = 0 then (
  zq_b2 (f_X3_faulted o1 1) (fun r14 o15 =>
  some (r14, o15, s))) else (
  if (s (Int32.toNatClampNeg x3) 1 0) = 0 then (
  zq_b2 (f_X3_faulted o1 1) (fun r40 o41 =>
  some (r40, o41, s))) else (
  if (s (Int32.toNatClampNeg x1) 2 0) = (s (Int32.toNatClampNeg x3) 2 0) then (
  if x5 < 0 then (
  zq_b2 (f_X3_faulted o1 3) (fun r20 o21 =>
  some (r20, o21, s))) else (
  zq_b1 (f_X1_holds (s (Int32.toNatClampNeg x1)) x2 x5) (fun r23 =>
  if r23 = 0 then (
  zq_b2 (f_X3_faulted o1 3) (fun r26 o27 =>
  some (r26, o27, s))) else (
  zq_b1 (f_X1_holds (s (Int32.toNatClampNeg x3)) x4 x5) (fun r29 =>
  if r29 = 0 then (
  zq_b2 (f_X3_faulted o1 3) (fun r34 o35 =>
  some (r34, o35, s))) else (
  zq_cp .int (s (Int32.toNatClampNeg x1) 0) 60 60 x2 x4 x5 (zq_lt (va_up s (Int32.toNatClampNeg x3) (va_up (s (Int32.toNatClampNeg x3)) 0 (va_cpy (s (Int32.toNatClampNeg x1) 0) (s (Int32.toNatClampNeg x3) 0) (Int32.toNatClampNeg x2) (Int32.toNatClampNeg x4) (Int32.toNatClampNeg x5)))) (fun s32 =>
  some (x5, o1, s32))))))))) else (
  zq_b2 (f_X3_faulted o1 2) (fun r37 o38 =>
  some (r37, o38, s))))))))))))
set_option maxHeartbeats 4000000 in
set_option maxRecDepth 100000 in
theorem c_X3_copy {l : Launch} {D : va_G} {ad : Nat → Nat} {cy : Nat → ClassId} {o : zS} {s : zS4} {n : zS} {t : zS} {r : zS} {w : zJ} {x1 : Int32} {x2 : Int32} {x3 : Int32} {x4 : Int32} {x5 : Int32} {r0 : Int32} {o' : zS} {s' : zS4} (hf : f_X3_copy o s x1 x2 x3 x4 x5 = some (r0, o', s')) : zMI l yX3_copy (zW yX3_copy cX3_copy 8 (some .int)) { frames := 1, cells := 0, slots := 0, locals := 48 } D cy [.ref (ad 0), .int x1, .int x2, .int x3, .int x4, .int x5] (wdX ad cy o s n t r w) r0 (wdX ad cy o' s' n t r w) := by
  unfold f_X3_copy at hf
  refine zEI (ty := .int) (by decide) (Nat.le_of_ble_eq_true rfl) ?_
  intro p e s9 m9 below meth c A Q C0 hret ls hl hP hD
  have hl : lv_has ls 8 [(0, .ref (ad 0)), (1, .int x1), (2, .int x2), (3, .int x3), (4, .int x4), (5, .int x5)] := hl
  have hS : va_S A s9.heap s9.heap [] := va_S.rf
  obtain ⟨hx, hb, hml, hown, hts⟩ := id C0.1
  refine lv_aload_n hx hb dX3_copy_0 rfl (lv_at hl 0 rfl) ?_
  refine lv_iconst (v := 0) hx hb dX3_copy_1 (by decide) ?_
  obtain ⟨o1, eo1, hf⟩ := zq_lt_s hf
  refine pf_X3_42 (ws' := (wdX ad cy o1 s n t r w)) C0 hP hD hS 0 wdX_0 (Nat.le_of_ble_eq_true rfl) (by rw [eo1]; rfl) dX3_copy_2 (fun H locs hP hD hS => ?_)
  refine lv_iload_n hx hb dX3_copy_5 rfl (lv_at hl 1 rfl) ?_
  obtain ⟨r3, hc2, hf⟩ := zq_b1_s hf
  refine zSI (ws' := (wdX ad cy o1 s n t r w)) (rest := []) C0 (fun _ h => h) zF.nil (c_X3_isSheet hc2) hP hD hS my_X3_isSheet kl_X3_46 ⟨rfl, rfl⟩ ⟨Nat.le_of_ble_eq_true rfl, Nat.le_of_ble_eq_true rfl⟩ rfl hl.1 rfl (Nat.le_of_ble_eq_true rfl) dX3_copy_6 ⟨Nat.zero_le _, Nat.zero_le _⟩ (fun H locs hP hD hS => ?_)
  refine lv_if_eq (tgt := 19) hx hb dX3_copy_9 (by decide) (fun c4 => ?_) (fun c4 => ?_)
  · have hf := it_t c4 hf
    refine lv_iconst (v := (-1)) hx hb dX3_copy_19 (by decide) ?_
    obtain ⟨rfl, rfl, rfl⟩ := zq_j3 hf
    exact hret _ _ _ _ rfl dX3_copy_20 hP hD hS
  · have hf := it_f c4 hf
    refine lv_iload_n hx hb dX3_copy_12 rfl (lv_at hl 3 rfl) ?_
    obtain ⟨r6, hc5, hf⟩ := zq_b1_s hf
    refine zSI (ws' := (wdX ad cy o1 s n t r w)) (rest := []) C0 (fun _ h => h) zF.nil (c_X3_isSheet hc5) hP hD hS my_X3_isSheet kl_X3_46 ⟨rfl, rfl⟩ ⟨Nat.le_of_ble_eq_true rfl, Nat.le_of_ble_eq_true rfl⟩ rfl hl.1 rfl (Nat.le_of_ble_eq_true rfl) dX3_copy_13 ⟨Nat.zero_le _, Nat.zero_le _⟩ (fun H locs hP hD hS => ?_)
    refine lv_if_ne (tgt := 21) hx hb dX3_copy_16 (by decide) (fun c7 => ?_) (fun c7 => ?_)
    · have hf := it_f c7 hf
      refine lv_aload_n hx hb dX3_copy_21 rfl (lv_at hl 0 rfl) ?_
      refine gf_X3_13 C0 hP 0 wdX_0 rfl dX3_copy_22 ?_
      refine lv_iload_n hx hb dX3_copy_25 rfl (lv_at hl 1 rfl) ?_
      obtain ⟨h8, hf⟩ := zq_in_s hf
      have hk9 := vp_lt h8
      refine zra C0 hP 1 wdX_1 (zRw_at hk9) h8 dX3_copy_26 ?_
      refine lv_astore (lv' := [(6, .ref (ad (2 + 2 * (Int32.toNatClampNeg x1)))), (0, .ref (ad 0)), (1, .int x1), (2, .int x2), (3, .int x3), (4, .int x4), (5, .int x5)]) hx hb dX3_copy_27 hl (by decide) rfl (fun ls hl => ?_)
      refine lv_aload_n hx hb dX3_copy_29 rfl (lv_at hl 1 rfl) ?_
      refine gf_X3_13 C0 hP 0 wdX_0 rfl dX3_copy_30 ?_
      refine lv_iload_n hx hb dX3_copy_33 rfl (lv_at hl 4 rfl) ?_
      obtain ⟨h10, hf⟩ := zq_in_s hf
      have hk11 := vp_lt h10
      refine zra C0 hP 1 wdX_1 (zRw_at hk11) h10 dX3_copy_34 ?_
      refine lv_astore (lv' := [(7, .ref (ad (2 + 2 * (Int32.toNatClampNeg x3)))), (6, .ref (ad (2 + 2 * (Int32.toNatClampNeg x1)))), (0, .ref (ad 0)), (1, .int x1), (2, .int x2), (3, .int x3), (4, .int x4), (5, .int x5)]) hx hb dX3_copy_35 hl (by decide) rfl (fun ls hl => ?_)
      refine lv_aload hx hb dX3_copy_37 (lv_at hl 1 rfl) ?_
      refine gf_X3_207 C0 hP (2 + 2 * (Int32.toNatClampNeg x1)) (wdX_sh hk9) rfl dX3_copy_39 ?_
      refine lv_if_eq (tgt := 53) hx hb dX3_copy_42 (by decide) (fun c12 => ?_) (fun c12 => ?_)
      · have hf := it_t c12 hf
        refine lv_aload_n hx hb dX3_copy_53 rfl (lv_at hl 2 rfl) ?_
        refine lv_iconst (v := 1) hx hb dX3_copy_54 (by decide) ?_
        obtain ⟨r14, o15, hc13, hf⟩ := zq_b2_s hf
        refine zVI (ws' := (wdX ad cy o15 s n t r w)) (rest := []) C0 (fun _ h => h) zF.id (c_X3_faulted hc13) hP hD hS my_X3_faulted kl_X3_57 ⟨rfl, rfl⟩ ⟨Nat.le_of_ble_eq_true rfl, Nat.le_of_ble_eq_true rfl⟩ (q0 := 0) (ci := 3) rfl wdX_0 rfl hl.1 rfl (Nat.le_of_ble_eq_true rfl) dX3_copy_55 ⟨Nat.zero_le _, Nat.zero_le _⟩ (fun H locs hP hD hS => ?_)
        obtain ⟨rfl, rfl, rfl⟩ := zq_j3 hf
        exact hret _ _ _ _ rfl dX3_copy_58 hP hD hS
      · have hf := it_f c12 hf
        refine lv_aload hx hb dX3_copy_45 (lv_at hl 0 rfl) ?_
        refine gf_X3_207 C0 hP (2 + 2 * (Int32.toNatClampNeg x3)) (wdX_sh hk11) rfl dX3_copy_47 ?_
        refine lv_if_ne (tgt := 59) hx hb dX3_copy_50 (by decide) (fun c16 => ?_) (fun c16 => ?_)
        · have hf := it_f c16 hf
          refine lv_aload hx hb dX3_copy_59 (lv_at hl 1 rfl) ?_
          refine gf_X3_211 C0 hP (2 + 2 * (Int32.toNatClampNeg x1)) (wdX_sh hk9) rfl dX3_copy_61 ?_
          refine lv_aload hx hb dX3_copy_64 (lv_at hl 0 rfl) ?_
          refine gf_X3_211 C0 hP (2 + 2 * (Int32.toNatClampNeg x3)) (wdX_sh hk11) rfl dX3_copy_66 ?_
          refine lv_icmp_eq (tgt := 78) hx hb dX3_copy_69 (by decide) (fun c17 => ?_) (fun c17 => ?_)
          · have hf := it_t c17 hf
            refine lv_iload hx hb dX3_copy_78 (lv_at hl 7 rfl) ?_
            refine lv_if_lt (tgt := 106) hx hb dX3_copy_80 (by decide) (fun c18 => ?_) (fun c18 => ?_)
            · have hf := it_t c18 hf
              refine lv_aload_n hx hb dX3_copy_106 rfl (lv_at hl 2 rfl) ?_
              refine lv_iconst (v := 3) hx hb dX3_copy_107 (by decide) ?_
              obtain ⟨r20, o21, hc19, hf⟩ := zq_b2_s hf
              refine zVI (ws' := (wdX ad cy o21 s n t r w)) (rest := []) C0 (fun _ h => h) zF.id (c_X3_faulted hc19) hP hD hS my_X3_faulted kl_X3_57 ⟨rfl, rfl⟩ ⟨Nat.le_of_ble_eq_true rfl, Nat.le_of_ble_eq_true rfl⟩ (q0 := 0) (ci := 3) rfl wdX_0 rfl hl.1 rfl (Nat.le_of_ble_eq_true rfl) dX3_copy_108 ⟨Nat.zero_le _, Nat.zero_le _⟩ (fun H locs hP hD hS => ?_)
              obtain ⟨rfl, rfl, rfl⟩ := zq_j3 hf
              exact hret _ _ _ _ rfl dX3_copy_111 hP hD hS
            · have hf := it_f c18 hf
              refine lv_aload hx hb dX3_copy_83 (lv_at hl 1 rfl) ?_
              refine lv_iload_n hx hb dX3_copy_85 rfl (lv_at hl 4 rfl) ?_
              refine lv_iload hx hb dX3_copy_86 (lv_at hl 7 rfl) ?_
              obtain ⟨r23, hc22, hf⟩ := zq_b1_s hf
              refine zVI (ws' := (wdX ad cy o1 s n t r w)) (rest := []) C0 (fun _ h => h) (fX_s0 hk9) (c_X1_holds (ad := fun j => ad (2 + 2 * (Int32.toNatClampNeg x1) + j)) hc22) hP hD hS my_X1_holds kl_X3_217 ⟨rfl, rfl⟩ ⟨Nat.le_of_ble_eq_true rfl, Nat.le_of_ble_eq_true rfl⟩ (q0 := (2 + 2 * (Int32.toNatClampNeg x1))) (ci := 1) rfl (wdX_sh hk9) rfl hl.1 rfl (Nat.le_of_ble_eq_true rfl) dX3_copy_88 ⟨Nat.zero_le _, Nat.zero_le _⟩ (fun H locs hP hD hS => ?_)
              refine lv_if_eq (tgt := 106) hx hb dX3_copy_91 (by decide) (fun c24 => ?_) (fun c24 => ?_)
              · have hf := it_t c24 hf
                refine lv_aload_n hx hb dX3_copy_106 rfl (lv_at hl 2 rfl) ?_
                refine lv_iconst (v := 3) hx hb dX3_copy_107 (by decide) ?_
                obtain ⟨r26, o27, hc25, hf⟩ := zq_b2_s hf
                refine zVI (ws' := (wdX ad cy o27 s n t r w)) (rest := []) C0 (fun _ h => h) zF.id (c_X3_faulted hc25) hP hD hS my_X3_faulted kl_X3_57 ⟨rfl, rfl⟩ ⟨Nat.le_of_ble_eq_true rfl, Nat.le_of_ble_eq_true rfl⟩ (q0 := 0) (ci := 3) rfl wdX_0 rfl hl.1 rfl (Nat.le_of_ble_eq_true rfl) dX3_copy_108 ⟨Nat.zero_le _, Nat.zero_le _⟩ (fun H locs hP hD hS => ?_)
                obtain ⟨rfl, rfl, rfl⟩ := zq_j3 hf
                exact hret _ _ _ _ rfl dX3_copy_111 hP hD hS
              · have hf := it_f c24 hf
                refine lv_aload hx hb dX3_copy_94 (lv_at hl 0 rfl) ?_
                refine lv_iload hx hb dX3_copy_96 (lv_at hl 6 rfl) ?_
                refine lv_iload hx hb dX3_copy_98 (lv_at hl 7 rfl) ?_
                obtain ⟨r29, hc28, hf⟩ := zq_b1_s hf
                refine zVI (ws' := (wdX ad cy o1 s n t r w)) (rest := []) C0 (fun _ h => h) (fX_s0 hk11) (c_X1_holds (ad := fun j => ad (2 + 2 * (Int32.toNatClampNeg x3) + j)) hc28) hP hD hS my_X1_holds kl_X3_217 ⟨rfl, rfl⟩ ⟨Nat.le_of_ble_eq_true rfl, Nat.le_of_ble_eq_true rfl⟩ (q0 := (2 + 2 * (Int32.toNatClampNeg x3))) (ci := 1) rfl (wdX_sh hk11) rfl hl.1 rfl (Nat.le_of_ble_eq_true rfl) dX3_copy_100 ⟨Nat.zero_le _, Nat.zero_le _⟩ (fun H locs hP hD hS => ?_)
                refine lv_if_ne (tgt := 112) hx hb dX3_copy_103 (by decide) (fun c30 => ?_) (fun c30 => ?_)
                · have hf := it_f c30 hf
                  refine lv_aload hx hb dX3_copy_112 (lv_at hl 1 rfl) ?_
                  refine gf_X3_167 C0 hP (2 + 2 * (Int32.toNatClampNeg x1)) (wdX_sh hk9) rfl dX3_copy_114 ?_
                  refine lv_iload_n hx hb dX3_copy_117 rfl (lv_at hl 4 rfl) ?_
                  refine lv_aload hx hb dX3_copy_118 (lv_at hl 0 rfl) ?_
                  refine gf_X3_167 C0 hP (2 + 2 * (Int32.toNatClampNeg x3)) (wdX_sh hk11) rfl dX3_copy_120 ?_
                  refine lv_iload hx hb dX3_copy_123 (lv_at hl 6 rfl) ?_
                  refine lv_iload hx hb dX3_copy_125 (lv_at hl 7 rfl) ?_
                  obtain ⟨h31, hf⟩ := zq_cp_s hf
                  obtain ⟨s32, es32, hf⟩ := zq_lt_s hf
                  refine zcpy (ws' := (wdX ad cy o1 s32 n t r w)) C0 hl.1 0 rfl rfl kl_X3_220 kn_ac ks_ac ki_J10 hP hD hS (2 + 2 * (Int32.toNatClampNeg x1) + 1) (2 + 2 * (Int32.toNatClampNeg x3) + 1) (wdX_sc hk9) (wdX_sc hk11) h31 (Nat.le_of_ble_eq_true rfl) (Nat.le_of_ble_eq_true rfl) (by rw [es32]; exact wdX_ss hk11 _) dX3_copy_127 (fun H locs hP hD hS => ?_)
                  refine lv_iload hx hb dX3_copy_130 (lv_at hl 7 rfl) ?_
                  obtain ⟨rfl, rfl, rfl⟩ := zq_j3 hf
                  exact hret _ _ _ _ rfl dX3_copy_132 hP hD hS
                · have hf := it_t c30 hf
                  refine lv_aload_n hx hb dX3_copy_106 rfl (lv_at hl 2 rfl) ?_
                  refine lv_iconst (v := 3) hx hb dX3_copy_107 (by decide) ?_
                  obtain ⟨r34, o35, hc33, hf⟩ := zq_b2_s hf
                  refine zVI (ws' := (wdX ad cy o35 s n t r w)) (rest := []) C0 (fun _ h => h) zF.id (c_X3_faulted hc33) hP hD hS my_X3_faulted kl_X3_57 ⟨rfl, rfl⟩ ⟨Nat.le_of_ble_eq_true rfl, Nat.le_of_ble_eq_true rfl⟩ (q0 := 0) (ci := 3) rfl wdX_0 rfl hl.1 rfl (Nat.le_of_ble_eq_true rfl) dX3_copy_108 ⟨Nat.zero_le _, Nat.zero_le _⟩ (fun H locs hP hD hS => ?_)
                  obtain ⟨rfl, rfl, rfl⟩ := zq_j3 hf
                  exact hret _ _ _ _ rfl dX3_copy_111 hP hD hS
          · have hf := it_f c17 hf
            refine lv_aload_n hx hb dX3_copy_72 rfl (lv_at hl 2 rfl) ?_
            refine lv_iconst (v := 2) hx hb dX3_copy_73 (by decide) ?_
            obtain ⟨r37, o38, hc36, hf⟩ := zq_b2_s hf
            refine zVI (ws' := (wdX ad cy o38 s n t r w)) (rest := []) C0 (fun _ h => h) zF.id (c_X3_faulted hc36) hP hD hS my_X3_faulted kl_X3_57 ⟨rfl, rfl⟩ ⟨Nat.le_of_ble_eq_true rfl, Nat.le_of_ble_eq_true rfl⟩ (q0 := 0) (ci := 3) rfl wdX_0 rfl hl.1 rfl (Nat.le_of_ble_eq_true rfl) dX3_copy_74 ⟨Nat.zero_le _, Nat.zero_le _⟩ (fun H locs hP hD hS => ?_)
            obtain ⟨rfl, rfl, rfl⟩ := zq_j3 hf
            exact hret _ _ _ _ rfl dX3_copy_77 hP hD hS
        · have hf := it_t c16 hf
          refine lv_aload_n hx hb dX3_copy_53 rfl (lv_at hl 2 rfl) ?_
          refine lv_iconst (v := 1) hx hb dX3_copy_54 (by decide) ?_
          obtain ⟨r40, o41, hc39, hf⟩ := zq_b2_s hf
          refine zVI (ws' := (wdX ad cy o41 s n t r w)) (rest := []) C0 (fun _ h => h) zF.id (c_X3_faulted hc39) hP hD hS my_X3_faulted kl_X3_57 ⟨rfl, rfl⟩ ⟨Nat.le_of_ble_eq_true rfl, Nat.le_of_ble_eq_true rfl⟩ (q0 := 0) (ci := 3) rfl wdX_0 rfl hl.1 rfl (Nat.le_of_ble_eq_true rfl) dX3_copy_55 ⟨Nat.zero_le _, Nat.zero_le _⟩ (fun H locs hP hD hS => ?_)
          obtain ⟨rfl, rfl, rfl⟩ := zq_j3 hf
          exact hret _ _ _ _ rfl dX3_copy_58 hP hD hS
    · have hf := it_t c7 hf
      refine lv_iconst (v := (-1)) hx hb dX3_copy_19 (by decide) ?_
      obtain ⟨rfl, rfl, rfl⟩ := zq_j3 hf
      exact hret _ _ _ _ rfl dX3_copy_20 hP hD hS

def f_X3_leaveTrace (o : zS) (x1 : Int32) : Option (zS) :=
  zq_lt (va_up o 5 (fun _ => ((31 * (o 5 0)) + x1))) (fun o1 =>
  some o1)
set_option maxHeartbeats 4000000 in
set_option maxRecDepth 100000 in
theorem c_X3_leaveTrace {l : Launch} {D : va_G} {ad : Nat → Nat} {cy : Nat → ClassId} {o : zS} {s : zS4} {n : zS} {t : zS} {r : zS} {w : zJ} {x1 : Int32} {o' : zS} (hf : f_X3_leaveTrace o x1 = some o') : zMV l yX3_leaveTrace (zW yX3_leaveTrace cX3_leaveTrace 2 none) { frames := 0, cells := 0, slots := 0, locals := 0 } D cy [.ref (ad 0), .int x1] (wdX ad cy o s n t r w) (wdX ad cy o' s n t r w) := by
  unfold f_X3_leaveTrace at hf
  refine zEV (by decide) (Nat.le_of_ble_eq_true rfl) ?_
  intro p e s9 m9 below meth c A Q C0 hret ls hl hP hD
  have hl : lv_has ls 2 [(0, .ref (ad 0)), (1, .int x1)] := hl
  have hS : va_S A s9.heap s9.heap [] := va_S.rf
  obtain ⟨hx, hb, hml, hown, hts⟩ := id C0.1
  refine lv_aload_n hx hb dX3_leaveTrace_0 rfl (lv_at hl 0 rfl) ?_
  refine lv_bipush (v := 31) hx hb dX3_leaveTrace_1 (by decide) ?_
  refine lv_aload_n hx hb dX3_leaveTrace_3 rfl (lv_at hl 0 rfl) ?_
  refine gf_X3_38 C0 hP 0 wdX_0 rfl dX3_leaveTrace_4 ?_
  refine lv_imul hx hb dX3_leaveTrace_7 ?_
  refine lv_iload_n hx hb dX3_leaveTrace_8 rfl (lv_at hl 1 rfl) ?_
  refine lv_iadd hx hb dX3_leaveTrace_9 ?_
  obtain ⟨o1, eo1, hf⟩ := zq_lt_s hf
  refine pf_X3_38 (ws' := (wdX ad cy o1 s n t r w)) C0 hP hD hS 0 wdX_0 (Nat.le_of_ble_eq_true rfl) (by rw [eo1]; rfl) dX3_leaveTrace_10 (fun H locs hP hD hS => ?_)
  obtain rfl := Option.some.inj hf
  exact hret _ _ _ _ dX3_leaveTrace_13 hP hD hS

def f_X3_tellPlain (o : zS) (n : zS) (x1 : Int32) : Option (Int32 × zS) :=
  zq_b1 (f_X3_leaveTrace o 1) (fun o2 =>
  zq_rd (n 2) 4 x1 (fun v3 =>
  some (v3, o2)))
set_option maxHeartbeats 4000000 in
set_option maxRecDepth 100000 in
theorem c_X3_tellPlain {l : Launch} {D : va_G} {ad : Nat → Nat} {cy : Nat → ClassId} {o : zS} {s : zS4} {n : zS} {t : zS} {r : zS} {w : zJ} {x1 : Int32} {r0 : Int32} {o' : zS} (hf : f_X3_tellPlain o n x1 = some (r0, o')) : zMI l yX3_tellPlain (zW yX3_tellPlain cX3_tellPlain 2 (some .int)) { frames := 1, cells := 0, slots := 0, locals := 21 } D cy [.ref (ad 0), .int x1] (wdX ad cy o s n t r w) r0 (wdX ad cy o' s n t r w) := by
  unfold f_X3_tellPlain at hf
  refine zEI (ty := .int) (by decide) (Nat.le_of_ble_eq_true rfl) ?_
  intro p e s9 m9 below meth c A Q C0 hret ls hl hP hD
  have hl : lv_has ls 2 [(0, .ref (ad 0)), (1, .int x1)] := hl
  have hS : va_S A s9.heap s9.heap [] := va_S.rf
  obtain ⟨hx, hb, hml, hown, hts⟩ := id C0.1
  refine lv_aload_n hx hb dX3_tellPlain_0 rfl (lv_at hl 0 rfl) ?_
  refine lv_iconst (v := 1) hx hb dX3_tellPlain_1 (by decide) ?_
  obtain ⟨o2, hc1, hf⟩ := zq_b1_s hf
  refine zVV (ws' := (wdX ad cy o2 s n t r w)) (rest := []) C0 (fun _ h => h) zF.id (c_X3_leaveTrace hc1) hP hD hS my_X3_leaveTrace kl_X3_283 ⟨rfl, rfl⟩ ⟨Nat.le_of_ble_eq_true rfl, Nat.le_of_ble_eq_true rfl⟩ (q0 := 0) (ci := 3) rfl wdX_0 rfl hl.1 rfl (Nat.le_of_ble_eq_true rfl) dX3_tellPlain_2 ⟨Nat.zero_le _, Nat.zero_le _⟩ (fun H locs hP hD hS => ?_)
  refine lv_aload_n hx hb dX3_tellPlain_5 rfl (lv_at hl 0 rfl) ?_
  refine gf_X3_20 C0 hP 0 wdX_0 rfl dX3_tellPlain_6 ?_
  refine gf_X3_82 C0 hP 10 wdX_10 rfl dX3_tellPlain_9 ?_
  refine lv_iload_n hx hb dX3_tellPlain_12 rfl (lv_at hl 1 rfl) ?_
  obtain ⟨v3, ev3, h4, hf⟩ := zq_rd_s hf
  refine zia C0 hP 13 wdX_13 ev3 h4 dX3_tellPlain_13 ?_
  obtain ⟨rfl, rfl⟩ := zq_j2 hf
  exact hret _ _ _ _ rfl dX3_tellPlain_14 hP hD hS

def f_X3_tellHalved (o : zS) (n : zS) (x1 : Int32) : Option (Int32 × zS) :=
  zq_b1 (f_X3_leaveTrace o 2) (fun o2 =>
  zq_b2 (f_X3_tellPlain o2 n x1) (fun r4 o5 =>
  some ((r4 + 100), o5)))
set_option maxHeartbeats 4000000 in
set_option maxRecDepth 100000 in
theorem c_X3_tellHalved {l : Launch} {D : va_G} {ad : Nat → Nat} {cy : Nat → ClassId} {o : zS} {s : zS4} {n : zS} {t : zS} {r : zS} {w : zJ} {x1 : Int32} {r0 : Int32} {o' : zS} (hf : f_X3_tellHalved o n x1 = some (r0, o')) : zMI l yX3_tellHalved (zW yX3_tellHalved cX3_tellHalved 2 (some .int)) { frames := 2, cells := 0, slots := 0, locals := 42 } D cy [.ref (ad 0), .int x1] (wdX ad cy o s n t r w) r0 (wdX ad cy o' s n t r w) := by
  unfold f_X3_tellHalved at hf
  refine zEI (ty := .int) (by decide) (Nat.le_of_ble_eq_true rfl) ?_
  intro p e s9 m9 below meth c A Q C0 hret ls hl hP hD
  have hl : lv_has ls 2 [(0, .ref (ad 0)), (1, .int x1)] := hl
  have hS : va_S A s9.heap s9.heap [] := va_S.rf
  obtain ⟨hx, hb, hml, hown, hts⟩ := id C0.1
  refine lv_aload_n hx hb dX3_tellHalved_0 rfl (lv_at hl 0 rfl) ?_
  refine lv_iconst (v := 2) hx hb dX3_tellHalved_1 (by decide) ?_
  obtain ⟨o2, hc1, hf⟩ := zq_b1_s hf
  refine zVV (ws' := (wdX ad cy o2 s n t r w)) (rest := []) C0 (fun _ h => h) zF.id (c_X3_leaveTrace hc1) hP hD hS my_X3_leaveTrace kl_X3_283 ⟨rfl, rfl⟩ ⟨Nat.le_of_ble_eq_true rfl, Nat.le_of_ble_eq_true rfl⟩ (q0 := 0) (ci := 3) rfl wdX_0 rfl hl.1 rfl (Nat.le_of_ble_eq_true rfl) dX3_tellHalved_2 ⟨Nat.zero_le _, Nat.zero_le _⟩ (fun H locs hP hD hS => ?_)
  refine lv_aload_n hx hb dX3_tellHalved_5 rfl (lv_at hl 0 rfl) ?_
  refine lv_iload_n hx hb dX3_tellHalved_6 rfl (lv_at hl 1 rfl) ?_
  obtain ⟨r4, o5, hc3, hf⟩ := zq_b2_s hf
  refine zVI (ws' := (wdX ad cy o5 s n t r w)) (rest := []) C0 (fun _ h => h) zF.id (c_X3_tellPlain hc3) hP hD hS my_X3_tellPlain kl_X3_232 ⟨rfl, rfl⟩ ⟨Nat.le_of_ble_eq_true rfl, Nat.le_of_ble_eq_true rfl⟩ (q0 := 0) (ci := 3) rfl wdX_0 rfl hl.1 rfl (Nat.le_of_ble_eq_true rfl) dX3_tellHalved_7 ⟨Nat.zero_le _, Nat.zero_le _⟩ (fun H locs hP hD hS => ?_)
  refine lv_bipush (v := 100) hx hb dX3_tellHalved_10 (by decide) ?_
  refine lv_iadd hx hb dX3_tellHalved_12 ?_
  obtain ⟨rfl, rfl⟩ := zq_j2 hf
  exact hret _ _ _ _ rfl dX3_tellHalved_13 hP hD hS

def f_X3_tellBright (o : zS) (n : zS) (x1 : Int32) : Option (Int32 × zS) :=
  zq_b1 (f_X3_leaveTrace o 3) (fun o2 =>
  zq_b2 (f_X3_tellHalved o2 n x1) (fun r4 o5 =>
  zq_b2 (f_X3_tellPlain o5 n x1) (fun r7 o8 =>
  some ((r4 + r7), o8))))
set_option maxHeartbeats 4000000 in
set_option maxRecDepth 100000 in
theorem c_X3_tellBright {l : Launch} {D : va_G} {ad : Nat → Nat} {cy : Nat → ClassId} {o : zS} {s : zS4} {n : zS} {t : zS} {r : zS} {w : zJ} {x1 : Int32} {r0 : Int32} {o' : zS} (hf : f_X3_tellBright o n x1 = some (r0, o')) : zMI l yX3_tellBright (zW yX3_tellBright cX3_tellBright 3 (some .int)) { frames := 3, cells := 0, slots := 0, locals := 63 } D cy [.ref (ad 0), .int x1] (wdX ad cy o s n t r w) r0 (wdX ad cy o' s n t r w) := by
  unfold f_X3_tellBright at hf
  refine zEI (ty := .int) (by decide) (Nat.le_of_ble_eq_true rfl) ?_
  intro p e s9 m9 below meth c A Q C0 hret ls hl hP hD
  have hl : lv_has ls 3 [(0, .ref (ad 0)), (1, .int x1)] := hl
  have hS : va_S A s9.heap s9.heap [] := va_S.rf
  obtain ⟨hx, hb, hml, hown, hts⟩ := id C0.1
  refine lv_aload_n hx hb dX3_tellBright_0 rfl (lv_at hl 0 rfl) ?_
  refine lv_iconst (v := 3) hx hb dX3_tellBright_1 (by decide) ?_
  obtain ⟨o2, hc1, hf⟩ := zq_b1_s hf
  refine zVV (ws' := (wdX ad cy o2 s n t r w)) (rest := []) C0 (fun _ h => h) zF.id (c_X3_leaveTrace hc1) hP hD hS my_X3_leaveTrace kl_X3_283 ⟨rfl, rfl⟩ ⟨Nat.le_of_ble_eq_true rfl, Nat.le_of_ble_eq_true rfl⟩ (q0 := 0) (ci := 3) rfl wdX_0 rfl hl.1 rfl (Nat.le_of_ble_eq_true rfl) dX3_tellBright_2 ⟨Nat.zero_le _, Nat.zero_le _⟩ (fun H locs hP hD hS => ?_)
  refine lv_aload_n hx hb dX3_tellBright_5 rfl (lv_at hl 0 rfl) ?_
  refine lv_iload_n hx hb dX3_tellBright_6 rfl (lv_at hl 1 rfl) ?_
  obtain ⟨r4, o5, hc3, hf⟩ := zq_b2_s hf
  refine zVI (ws' := (wdX ad cy o5 s n t r w)) (rest := []) C0 (fun _ h => h) zF.id (c_X3_tellHalved hc3) hP hD hS my_X3_tellHalved kl_X3_229 ⟨rfl, rfl⟩ ⟨Nat.le_of_ble_eq_true rfl, Nat.le_of_ble_eq_true rfl⟩ (q0 := 0) (ci := 3) rfl wdX_0 rfl hl.1 rfl (Nat.le_of_ble_eq_true rfl) dX3_tellBright_7 ⟨Nat.zero_le _, Nat.zero_le _⟩ (fun H locs hP hD hS => ?_)
  refine lv_istore_n (lv' := [(2, .int r4), (0, .ref (ad 0)), (1, .int x1)]) hx hb dX3_tellBright_10 rfl hl (by decide) rfl (fun ls hl => ?_)
  refine lv_iload_n hx hb dX3_tellBright_11 rfl (lv_at hl 0 rfl) ?_
  refine lv_aload_n hx hb dX3_tellBright_12 rfl (lv_at hl 1 rfl) ?_
  refine lv_iload_n hx hb dX3_tellBright_13 rfl (lv_at hl 2 rfl) ?_
  obtain ⟨r7, o8, hc6, hf⟩ := zq_b2_s hf
  refine zVI (ws' := (wdX ad cy o8 s n t r w)) (rest := [.int r4]) C0 (fun _ h => h) zF.id (c_X3_tellPlain hc6) hP hD hS my_X3_tellPlain kl_X3_232 ⟨rfl, rfl⟩ ⟨Nat.le_of_ble_eq_true rfl, Nat.le_of_ble_eq_true rfl⟩ (q0 := 0) (ci := 3) rfl wdX_0 rfl hl.1 rfl (Nat.le_of_ble_eq_true rfl) dX3_tellBright_14 ⟨Nat.zero_le _, Nat.zero_le _⟩ (fun H locs hP hD hS => ?_)
  refine lv_iadd hx hb dX3_tellBright_17 ?_
  obtain ⟨rfl, rfl⟩ := zq_j2 hf
  exact hret _ _ _ _ rfl dX3_tellBright_18 hP hD hS

def f_X3_tell (o : zS) (n : zS) (x1 : Int32) : Option (Int32 × zS) :=
  zq_b1 (f_X2_hasModule n x1) (fun r2 =>
  if r2 = 0 then (
  some ((-1), o)) else (
  zq_rd (n 0) 4 x1 (fun v4 =>
  if v4 = 1 then (
  zq_b2 (f_X3_tellHalved o n x1) (fun r8 o9 =>
  some (r8, o9))) else (
  if v4 = 2 then (
  zq_b2 (f_X3_tellBright o n x1) (fun r12 o13 =>
  some (r12, o13))) else (
  zq_b2 (f_X3_tellPlain o n x1) (fun r15 o16 =>
  some (r15, o16)))))))
set_option maxHeartbeats 4000000 in
set_option maxRecDepth 100000 in
theorem c_X3_tell {l : Launch} {D : va_G} {ad : Nat → Nat} {cy : Nat → ClassId} {o : zS} {s : zS4} {n : zS} {t : zS} {r : zS} {w : zJ} {x1 : Int32} {r0 : Int32} {o' : zS} (hf : f_X3_tell o n x1 = some (r0, o')) : zMI l yX3_tell (zW yX3_tell cX3_tell 2 (some .int)) { frames := 4, cells := 0, slots := 0, locals := 85 } D cy [.ref (ad 0), .int x1] (wdX ad cy o s n t r w) r0 (wdX ad cy o' s n t r w) := by
  unfold f_X3_tell at hf
  refine zEI (ty := .int) (by decide) (Nat.le_of_ble_eq_true rfl) ?_
  intro p e s9 m9 below meth c A Q C0 hret ls hl hP hD
  have hl : lv_has ls 2 [(0, .ref (ad 0)), (1, .int x1)] := hl
  have hS : va_S A s9.heap s9.heap [] := va_S.rf
  obtain ⟨hx, hb, hml, hown, hts⟩ := id C0.1
  refine lv_aload_n hx hb dX3_tell_0 rfl (lv_at hl 0 rfl) ?_
  refine gf_X3_20 C0 hP 0 wdX_0 rfl dX3_tell_1 ?_
  refine lv_iload_n hx hb dX3_tell_4 rfl (lv_at hl 1 rfl) ?_
  obtain ⟨r2, hc1, hf⟩ := zq_b1_s hf
  refine zVI (ws' := (wdX ad cy o s n t r w)) (rest := []) C0 (fun _ h => h) fX_n (c_X2_hasModule (ad := fun j => ad (10 + j)) hc1) hP hD hS my_X2_hasModule kl_X3_75 ⟨rfl, rfl⟩ ⟨Nat.le_of_ble_eq_true rfl, Nat.le_of_ble_eq_true rfl⟩ (q0 := 10) (ci := 2) rfl wdX_10 rfl hl.1 rfl (Nat.le_of_ble_eq_true rfl) dX3_tell_5 ⟨Nat.zero_le _, Nat.zero_le _⟩ (fun H locs hP hD hS => ?_)
  refine lv_if_ne (tgt := 13) hx hb dX3_tell_8 (by decide) (fun c3 => ?_) (fun c3 => ?_)
  · have hf := it_f c3 hf
    refine lv_aload_n hx hb dX3_tell_13 rfl (lv_at hl 0 rfl) ?_
    refine gf_X3_20 C0 hP 0 wdX_0 rfl dX3_tell_14 ?_
    refine gf_X3_78 C0 hP 10 wdX_10 rfl dX3_tell_17 ?_
    refine lv_iload_n hx hb dX3_tell_20 rfl (lv_at hl 1 rfl) ?_
    obtain ⟨v4, ev4, h5, hf⟩ := zq_rd_s hf
    refine zia C0 hP 11 wdX_11 ev4 h5 dX3_tell_21 ?_
    by_cases c6 : v4 = 1
    · have hf := it_t c6 hf
      refine lv_lookup (off := 32) (tgt := 54) hx hb dX3_tell_22 (by decide) (by rw [c6]; rfl) (by decide) ?_
      refine lv_aload_n hx hb dX3_tell_54 rfl (lv_at hl 0 rfl) ?_
      refine lv_iload_n hx hb dX3_tell_55 rfl (lv_at hl 1 rfl) ?_
      obtain ⟨r8, o9, hc7, hf⟩ := zq_b2_s hf
      refine zVI (ws' := (wdX ad cy o9 s n t r w)) (rest := []) C0 (fun _ h => h) zF.id (c_X3_tellHalved hc7) hP hD hS my_X3_tellHalved kl_X3_229 ⟨rfl, rfl⟩ ⟨Nat.le_of_ble_eq_true rfl, Nat.le_of_ble_eq_true rfl⟩ (q0 := 0) (ci := 3) rfl wdX_0 rfl hl.1 rfl (Nat.le_of_ble_eq_true rfl) dX3_tell_56 ⟨Nat.zero_le _, Nat.zero_le _⟩ (fun H locs hP hD hS => ?_)
      obtain ⟨rfl, rfl⟩ := zq_j2 hf
      exact hret _ _ _ _ rfl dX3_tell_59 hP hD hS
    have hf := it_f c6 hf
    by_cases c10 : v4 = 2
    · have hf := it_t c10 hf
      refine lv_lookup (off := 26) (tgt := 48) hx hb dX3_tell_22 (by decide) (by rw [c10]; rfl) (by decide) ?_
      refine lv_aload_n hx hb dX3_tell_48 rfl (lv_at hl 0 rfl) ?_
      refine lv_iload_n hx hb dX3_tell_49 rfl (lv_at hl 1 rfl) ?_
      obtain ⟨r12, o13, hc11, hf⟩ := zq_b2_s hf
      refine zVI (ws' := (wdX ad cy o13 s n t r w)) (rest := []) C0 (fun _ h => h) zF.id (c_X3_tellBright hc11) hP hD hS my_X3_tellBright kl_X3_226 ⟨rfl, rfl⟩ ⟨Nat.le_of_ble_eq_true rfl, Nat.le_of_ble_eq_true rfl⟩ (q0 := 0) (ci := 3) rfl wdX_0 rfl hl.1 rfl (Nat.le_of_ble_eq_true rfl) dX3_tell_50 ⟨Nat.zero_le _, Nat.zero_le _⟩ (fun H locs hP hD hS => ?_)
      obtain ⟨rfl, rfl⟩ := zq_j2 hf
      exact hret _ _ _ _ rfl dX3_tell_53 hP hD hS
    have hf := it_f c10 hf
    refine lv_lookup (off := 38) (tgt := 60) hx hb dX3_tell_22 (by decide) ((lv_osw c6 (by decide)).trans ((lv_osw c10 (by decide)).trans rfl)) (by decide) ?_
    refine lv_aload_n hx hb dX3_tell_60 rfl (lv_at hl 0 rfl) ?_
    refine lv_iload_n hx hb dX3_tell_61 rfl (lv_at hl 1 rfl) ?_
    obtain ⟨r15, o16, hc14, hf⟩ := zq_b2_s hf
    refine zVI (ws' := (wdX ad cy o16 s n t r w)) (rest := []) C0 (fun _ h => h) zF.id (c_X3_tellPlain hc14) hP hD hS my_X3_tellPlain kl_X3_232 ⟨rfl, rfl⟩ ⟨Nat.le_of_ble_eq_true rfl, Nat.le_of_ble_eq_true rfl⟩ (q0 := 0) (ci := 3) rfl wdX_0 rfl hl.1 rfl (Nat.le_of_ble_eq_true rfl) dX3_tell_62 ⟨Nat.zero_le _, Nat.zero_le _⟩ (fun H locs hP hD hS => ?_)
    obtain ⟨rfl, rfl⟩ := zq_j2 hf
    exact hret _ _ _ _ rfl dX3_tell_65 hP hD hS
  · have hf := it_t c3 hf
    refine lv_iconst (v := (-1)) hx hb dX3_tell_11 (by decide) ?_
    obtain ⟨rfl, rfl⟩ := zq_j2 hf
    exact hret _ _ _ _ rfl dX3_tell_12 hP hD hS

def f_X3_switchBright (o : zS)  : Option (Int32 × zS) :=
  zq_b1 (f_X3_leaveTrace o 5) (fun o2 =>
  some (60, o2))
set_option maxHeartbeats 4000000 in
set_option maxRecDepth 100000 in
theorem c_X3_switchBright {l : Launch} {D : va_G} {ad : Nat → Nat} {cy : Nat → ClassId} {o : zS} {s : zS4} {n : zS} {t : zS} {r : zS} {w : zJ}  {r0 : Int32} {o' : zS} (hf : f_X3_switchBright o = some (r0, o')) : zMI l yX3_switchBright (zW yX3_switchBright cX3_switchBright 1 (some .int)) { frames := 1, cells := 0, slots := 0, locals := 21 } D cy [.ref (ad 0)] (wdX ad cy o s n t r w) r0 (wdX ad cy o' s n t r w) := by
  unfold f_X3_switchBright at hf
  refine zEI (ty := .int) (by decide) (Nat.le_of_ble_eq_true rfl) ?_
  intro p e s9 m9 below meth c A Q C0 hret ls hl hP hD
  have hl : lv_has ls 1 [(0, .ref (ad 0))] := hl
  have hS : va_S A s9.heap s9.heap [] := va_S.rf
  obtain ⟨hx, hb, hml, hown, hts⟩ := id C0.1
  refine lv_aload_n hx hb dX3_switchBright_0 rfl (lv_at hl 0 rfl) ?_
  refine lv_iconst (v := 5) hx hb dX3_switchBright_1 (by decide) ?_
  obtain ⟨o2, hc1, hf⟩ := zq_b1_s hf
  refine zVV (ws' := (wdX ad cy o2 s n t r w)) (rest := []) C0 (fun _ h => h) zF.id (c_X3_leaveTrace hc1) hP hD hS my_X3_leaveTrace kl_X3_283 ⟨rfl, rfl⟩ ⟨Nat.le_of_ble_eq_true rfl, Nat.le_of_ble_eq_true rfl⟩ (q0 := 0) (ci := 3) rfl wdX_0 rfl hl.1 rfl (Nat.le_of_ble_eq_true rfl) dX3_switchBright_2 ⟨Nat.zero_le _, Nat.zero_le _⟩ (fun H locs hP hD hS => ?_)
  refine lv_bipush (v := 60) hx hb dX3_switchBright_5 (by decide) ?_
  obtain ⟨rfl, rfl⟩ := zq_j2 hf
  exact hret _ _ _ _ rfl dX3_switchBright_7 hP hD hS

def f_X3_switchLent (o : zS) (n : zS) (x1 : Int32) : Option (Int32 × zS) :=
  zq_b1 (f_X3_leaveTrace o 4) (fun o2 =>
  zq_b1 (f_X2_levelsTogether n x1) (fun r4 =>
  some (r4, o2)))
set_option maxHeartbeats 4000000 in
set_option maxRecDepth 100000 in
theorem c_X3_switchLent {l : Launch} {D : va_G} {ad : Nat → Nat} {cy : Nat → ClassId} {o : zS} {s : zS4} {n : zS} {t : zS} {r : zS} {w : zJ} {x1 : Int32} {r0 : Int32} {o' : zS} (hf : f_X3_switchLent o n x1 = some (r0, o')) : zMI l yX3_switchLent (zW yX3_switchLent cX3_switchLent 2 (some .int)) { frames := 1, cells := 0, slots := 0, locals := 23 } D cy [.ref (ad 0), .int x1] (wdX ad cy o s n t r w) r0 (wdX ad cy o' s n t r w) := by
  unfold f_X3_switchLent at hf
  refine zEI (ty := .int) (by decide) (Nat.le_of_ble_eq_true rfl) ?_
  intro p e s9 m9 below meth c A Q C0 hret ls hl hP hD
  have hl : lv_has ls 2 [(0, .ref (ad 0)), (1, .int x1)] := hl
  have hS : va_S A s9.heap s9.heap [] := va_S.rf
  obtain ⟨hx, hb, hml, hown, hts⟩ := id C0.1
  refine lv_aload_n hx hb dX3_switchLent_0 rfl (lv_at hl 0 rfl) ?_
  refine lv_iconst (v := 4) hx hb dX3_switchLent_1 (by decide) ?_
  obtain ⟨o2, hc1, hf⟩ := zq_b1_s hf
  refine zVV (ws' := (wdX ad cy o2 s n t r w)) (rest := []) C0 (fun _ h => h) zF.id (c_X3_leaveTrace hc1) hP hD hS my_X3_leaveTrace kl_X3_283 ⟨rfl, rfl⟩ ⟨Nat.le_of_ble_eq_true rfl, Nat.le_of_ble_eq_true rfl⟩ (q0 := 0) (ci := 3) rfl wdX_0 rfl hl.1 rfl (Nat.le_of_ble_eq_true rfl) dX3_switchLent_2 ⟨Nat.zero_le _, Nat.zero_le _⟩ (fun H locs hP hD hS => ?_)
  refine lv_aload_n hx hb dX3_switchLent_5 rfl (lv_at hl 0 rfl) ?_
  refine gf_X3_20 C0 hP 0 wdX_0 rfl dX3_switchLent_6 ?_
  refine lv_iload_n hx hb dX3_switchLent_9 rfl (lv_at hl 1 rfl) ?_
  obtain ⟨r4, hc3, hf⟩ := zq_b1_s hf
  refine zVI (ws' := (wdX ad cy o2 s n t r w)) (rest := []) C0 (fun _ h => h) fX_n (c_X2_levelsTogether (ad := fun j => ad (10 + j)) hc3) hP hD hS my_X2_levelsTogether kl_X3_286 ⟨rfl, rfl⟩ ⟨Nat.le_of_ble_eq_true rfl, Nat.le_of_ble_eq_true rfl⟩ (q0 := 10) (ci := 2) rfl wdX_10 rfl hl.1 rfl (Nat.le_of_ble_eq_true rfl) dX3_switchLent_10 ⟨Nat.zero_le _, Nat.zero_le _⟩ (fun H locs hP hD hS => ?_)
  obtain ⟨rfl, rfl⟩ := zq_j2 hf
  exact hret _ _ _ _ rfl dX3_switchLent_13 hP hD hS

def f_X3_switchOn (o : zS) (n : zS) (x1 : Int32) : Option (Int32 × zS) :=
  zq_b1 (f_X2_hasModule n x1) (fun r2 =>
  if r2 = 0 then (
  some ((-1), o)) else (
  zq_rd (n 0) 4 x1 (fun v4 =>
  if v4 = 2 then (
  zq_b2 (f_X3_switchBright o) (fun r11 o12 =>
  some (r11, o12))) else (
  zq_b2 (f_X3_switchLent o n x1) (fun r8 o9 =>
  some (r8, o9))))))
set_option maxHeartbeats 4000000 in
set_option maxRecDepth 100000 in
theorem c_X3_switchOn {l : Launch} {D : va_G} {ad : Nat → Nat} {cy : Nat → ClassId} {o : zS} {s : zS4} {n : zS} {t : zS} {r : zS} {w : zJ} {x1 : Int32} {r0 : Int32} {o' : zS} (hf : f_X3_switchOn o n x1 = some (r0, o')) : zMI l yX3_switchOn (zW yX3_switchOn cX3_switchOn 2 (some .int)) { frames := 2, cells := 0, slots := 0, locals := 44 } D cy [.ref (ad 0), .int x1] (wdX ad cy o s n t r w) r0 (wdX ad cy o' s n t r w) := by
  unfold f_X3_switchOn at hf
  refine zEI (ty := .int) (by decide) (Nat.le_of_ble_eq_true rfl) ?_
  intro p e s9 m9 below meth c A Q C0 hret ls hl hP hD
  have hl : lv_has ls 2 [(0, .ref (ad 0)), (1, .int x1)] := hl
  have hS : va_S A s9.heap s9.heap [] := va_S.rf
  obtain ⟨hx, hb, hml, hown, hts⟩ := id C0.1
  refine lv_aload_n hx hb dX3_switchOn_0 rfl (lv_at hl 0 rfl) ?_
  refine gf_X3_20 C0 hP 0 wdX_0 rfl dX3_switchOn_1 ?_
  refine lv_iload_n hx hb dX3_switchOn_4 rfl (lv_at hl 1 rfl) ?_
  obtain ⟨r2, hc1, hf⟩ := zq_b1_s hf
  refine zVI (ws' := (wdX ad cy o s n t r w)) (rest := []) C0 (fun _ h => h) fX_n (c_X2_hasModule (ad := fun j => ad (10 + j)) hc1) hP hD hS my_X2_hasModule kl_X3_75 ⟨rfl, rfl⟩ ⟨Nat.le_of_ble_eq_true rfl, Nat.le_of_ble_eq_true rfl⟩ (q0 := 10) (ci := 2) rfl wdX_10 rfl hl.1 rfl (Nat.le_of_ble_eq_true rfl) dX3_switchOn_5 ⟨Nat.zero_le _, Nat.zero_le _⟩ (fun H locs hP hD hS => ?_)
  refine lv_if_ne (tgt := 13) hx hb dX3_switchOn_8 (by decide) (fun c3 => ?_) (fun c3 => ?_)
  · have hf := it_f c3 hf
    refine lv_aload_n hx hb dX3_switchOn_13 rfl (lv_at hl 0 rfl) ?_
    refine gf_X3_20 C0 hP 0 wdX_0 rfl dX3_switchOn_14 ?_
    refine gf_X3_78 C0 hP 10 wdX_10 rfl dX3_switchOn_17 ?_
    refine lv_iload_n hx hb dX3_switchOn_20 rfl (lv_at hl 1 rfl) ?_
    obtain ⟨v4, ev4, h5, hf⟩ := zq_rd_s hf
    refine zia C0 hP 11 wdX_11 ev4 h5 dX3_switchOn_21 ?_
    refine lv_iconst (v := 2) hx hb dX3_switchOn_22 (by decide) ?_
    refine lv_icmp_ne (tgt := 33) hx hb dX3_switchOn_23 (by decide) (fun c6 => ?_) (fun c6 => ?_)
    · have hf := it_f c6 hf
      refine lv_aload_n hx hb dX3_switchOn_33 rfl (lv_at hl 0 rfl) ?_
      refine lv_iload_n hx hb dX3_switchOn_34 rfl (lv_at hl 1 rfl) ?_
      obtain ⟨r8, o9, hc7, hf⟩ := zq_b2_s hf
      refine zVI (ws' := (wdX ad cy o9 s n t r w)) (rest := []) C0 (fun _ h => h) zF.id (c_X3_switchLent hc7) hP hD hS my_X3_switchLent kl_X3_238 ⟨rfl, rfl⟩ ⟨Nat.le_of_ble_eq_true rfl, Nat.le_of_ble_eq_true rfl⟩ (q0 := 0) (ci := 3) rfl wdX_0 rfl hl.1 rfl (Nat.le_of_ble_eq_true rfl) dX3_switchOn_35 ⟨Nat.zero_le _, Nat.zero_le _⟩ (fun H locs hP hD hS => ?_)
      obtain ⟨rfl, rfl⟩ := zq_j2 hf
      exact hret _ _ _ _ rfl dX3_switchOn_38 hP hD hS
    · have hf := it_t c6 hf
      refine lv_aload_n hx hb dX3_switchOn_26 rfl (lv_at hl 0 rfl) ?_
      obtain ⟨r11, o12, hc10, hf⟩ := zq_b2_s hf
      refine zVI (ws' := (wdX ad cy o12 s n t r w)) (rest := []) C0 (fun _ h => h) zF.id (c_X3_switchBright hc10) hP hD hS my_X3_switchBright kl_X3_235 ⟨rfl, rfl⟩ ⟨Nat.le_of_ble_eq_true rfl, Nat.le_of_ble_eq_true rfl⟩ (q0 := 0) (ci := 3) rfl wdX_0 rfl hl.1 rfl (Nat.le_of_ble_eq_true rfl) dX3_switchOn_27 ⟨Nat.zero_le _, Nat.zero_le _⟩ (fun H locs hP hD hS => ?_)
      refine lv_goto (tgt := 38) hx hb dX3_switchOn_30 (by decide) ?_
      obtain ⟨rfl, rfl⟩ := zq_j2 hf
      exact hret _ _ _ _ rfl dX3_switchOn_38 hP hD hS
  · have hf := it_t c3 hf
    refine lv_iconst (v := (-1)) hx hb dX3_switchOn_11 (by decide) ?_
    obtain ⟨rfl, rfl⟩ := zq_j2 hf
    exact hret _ _ _ _ rfl dX3_switchOn_12 hP hD hS

def f_X3_as (o : zS) (n : zS) (x1 : Int32) (x2 : Int32) : Option (Int32 × zS) :=
  zq_lt (va_up o 6 (fun _ => 0)) (fun o1 =>
  zq_b1 (f_X2_hasModule n x1) (fun r3 =>
  if r3 = 0 then (
  some ((-1), o1)) else (
  if x2 < 0 then (
  some ((-2), o1)) else (
  if x2 ≤ 2 then (
  zq_rd (n 0) 4 x1 (fun v7 =>
  if v7 < x2 then (
  zq_b2 (f_X3_faulted o1 2) (fun r11 o12 =>
  some (r11, o12))) else (
  some (1, o1)))) else (
  some ((-2), o1))))))
set_option maxHeartbeats 4000000 in
set_option maxRecDepth 100000 in
theorem c_X3_as {l : Launch} {D : va_G} {ad : Nat → Nat} {cy : Nat → ClassId} {o : zS} {s : zS4} {n : zS} {t : zS} {r : zS} {w : zJ} {x1 : Int32} {x2 : Int32} {r0 : Int32} {o' : zS} (hf : f_X3_as o n x1 x2 = some (r0, o')) : zMI l yX3_as (zW yX3_as cX3_as 3 (some .int)) { frames := 1, cells := 0, slots := 0, locals := 21 } D cy [.ref (ad 0), .int x1, .int x2] (wdX ad cy o s n t r w) r0 (wdX ad cy o' s n t r w) := by
  unfold f_X3_as at hf
  refine zEI (ty := .int) (by decide) (Nat.le_of_ble_eq_true rfl) ?_
  intro p e s9 m9 below meth c A Q C0 hret ls hl hP hD
  have hl : lv_has ls 3 [(0, .ref (ad 0)), (1, .int x1), (2, .int x2)] := hl
  have hS : va_S A s9.heap s9.heap [] := va_S.rf
  obtain ⟨hx, hb, hml, hown, hts⟩ := id C0.1
  refine lv_aload_n hx hb dX3_as_0 rfl (lv_at hl 0 rfl) ?_
  refine lv_iconst (v := 0) hx hb dX3_as_1 (by decide) ?_
  obtain ⟨o1, eo1, hf⟩ := zq_lt_s hf
  refine pf_X3_42 (ws' := (wdX ad cy o1 s n t r w)) C0 hP hD hS 0 wdX_0 (Nat.le_of_ble_eq_true rfl) (by rw [eo1]; rfl) dX3_as_2 (fun H locs hP hD hS => ?_)
  refine lv_aload_n hx hb dX3_as_5 rfl (lv_at hl 0 rfl) ?_
  refine gf_X3_20 C0 hP 0 wdX_0 rfl dX3_as_6 ?_
  refine lv_iload_n hx hb dX3_as_9 rfl (lv_at hl 1 rfl) ?_
  obtain ⟨r3, hc2, hf⟩ := zq_b1_s hf
  refine zVI (ws' := (wdX ad cy o1 s n t r w)) (rest := []) C0 (fun _ h => h) fX_n (c_X2_hasModule (ad := fun j => ad (10 + j)) hc2) hP hD hS my_X2_hasModule kl_X3_75 ⟨rfl, rfl⟩ ⟨Nat.le_of_ble_eq_true rfl, Nat.le_of_ble_eq_true rfl⟩ (q0 := 10) (ci := 2) rfl wdX_10 rfl hl.1 rfl (Nat.le_of_ble_eq_true rfl) dX3_as_10 ⟨Nat.zero_le _, Nat.zero_le _⟩ (fun H locs hP hD hS => ?_)
  refine lv_if_ne (tgt := 18) hx hb dX3_as_13 (by decide) (fun c4 => ?_) (fun c4 => ?_)
  · have hf := it_f c4 hf
    refine lv_iload_n hx hb dX3_as_18 rfl (lv_at hl 2 rfl) ?_
    refine lv_if_lt (tgt := 27) hx hb dX3_as_19 (by decide) (fun c5 => ?_) (fun c5 => ?_)
    · have hf := it_t c5 hf
      refine lv_bipush (v := (-2)) hx hb dX3_as_27 (by decide) ?_
      obtain ⟨rfl, rfl⟩ := zq_j2 hf
      exact hret _ _ _ _ rfl dX3_as_29 hP hD hS
    · have hf := it_f c5 hf
      refine lv_iload_n hx hb dX3_as_22 rfl (lv_at hl 2 rfl) ?_
      refine lv_iconst (v := 2) hx hb dX3_as_23 (by decide) ?_
      refine lv_icmp_le (tgt := 30) hx hb dX3_as_24 (by decide) (fun c6 => ?_) (fun c6 => ?_)
      · have hf := it_t c6 hf
        refine lv_aload_n hx hb dX3_as_30 rfl (lv_at hl 0 rfl) ?_
        refine gf_X3_20 C0 hP 0 wdX_0 rfl dX3_as_31 ?_
        refine gf_X3_78 C0 hP 10 wdX_10 rfl dX3_as_34 ?_
        refine lv_iload_n hx hb dX3_as_37 rfl (lv_at hl 1 rfl) ?_
        obtain ⟨v7, ev7, h8, hf⟩ := zq_rd_s hf
        refine zia C0 hP 11 wdX_11 ev7 h8 dX3_as_38 ?_
        refine lv_iload_n hx hb dX3_as_39 rfl (lv_at hl 2 rfl) ?_
        refine lv_icmp_lt (tgt := 47) hx hb dX3_as_40 (by decide) (fun c9 => ?_) (fun c9 => ?_)
        · have hf := it_t c9 hf
          refine lv_aload_n hx hb dX3_as_47 rfl (lv_at hl 0 rfl) ?_
          refine lv_iconst (v := 2) hx hb dX3_as_48 (by decide) ?_
          obtain ⟨r11, o12, hc10, hf⟩ := zq_b2_s hf
          refine zVI (ws' := (wdX ad cy o12 s n t r w)) (rest := []) C0 (fun _ h => h) zF.id (c_X3_faulted hc10) hP hD hS my_X3_faulted kl_X3_57 ⟨rfl, rfl⟩ ⟨Nat.le_of_ble_eq_true rfl, Nat.le_of_ble_eq_true rfl⟩ (q0 := 0) (ci := 3) rfl wdX_0 rfl hl.1 rfl (Nat.le_of_ble_eq_true rfl) dX3_as_49 ⟨Nat.zero_le _, Nat.zero_le _⟩ (fun H locs hP hD hS => ?_)
          obtain ⟨rfl, rfl⟩ := zq_j2 hf
          exact hret _ _ _ _ rfl dX3_as_52 hP hD hS
        · have hf := it_f c9 hf
          refine lv_iconst (v := 1) hx hb dX3_as_43 (by decide) ?_
          refine lv_goto (tgt := 52) hx hb dX3_as_44 (by decide) ?_
          obtain ⟨rfl, rfl⟩ := zq_j2 hf
          exact hret _ _ _ _ rfl dX3_as_52 hP hD hS
      · have hf := it_f c6 hf
        refine lv_bipush (v := (-2)) hx hb dX3_as_27 (by decide) ?_
        obtain ⟨rfl, rfl⟩ := zq_j2 hf
        exact hret _ _ _ _ rfl dX3_as_29 hP hD hS
  · have hf := it_t c4 hf
    refine lv_iconst (v := (-1)) hx hb dX3_as_16 (by decide) ?_
    obtain ⟨rfl, rfl⟩ := zq_j2 hf
    exact hret _ _ _ _ rfl dX3_as_17 hP hD hS

def f_X3_trace (o : zS)  : Option (Int32) :=
  some (o 5 0)
set_option maxHeartbeats 4000000 in
set_option maxRecDepth 100000 in
theorem c_X3_trace {l : Launch} {D : va_G} {ad : Nat → Nat} {cy : Nat → ClassId} {o : zS} {s : zS4} {n : zS} {t : zS} {r : zS} {w : zJ}  {r0 : Int32} (hf : f_X3_trace o = some r0) : zMI l yX3_trace (zW yX3_trace cX3_trace 1 (some .int)) { frames := 0, cells := 0, slots := 0, locals := 0 } D cy [.ref (ad 0)] (wdX ad cy o s n t r w) r0 (wdX ad cy o s n t r w) := by
  unfold f_X3_trace at hf
  refine zEI (ty := .int) (by decide) (Nat.le_of_ble_eq_true rfl) ?_
  intro p e s9 m9 below meth c A Q C0 hret ls hl hP hD
  have hl : lv_has ls 1 [(0, .ref (ad 0))] := hl
  have hS : va_S A s9.heap s9.heap [] := va_S.rf
  obtain ⟨hx, hb, hml, hown, hts⟩ := id C0.1
  refine lv_aload_n hx hb dX3_trace_0 rfl (lv_at hl 0 rfl) ?_
  refine gf_X3_38 C0 hP 0 wdX_0 rfl dX3_trace_1 ?_
  obtain rfl := Option.some.inj hf
  exact hret _ _ _ _ rfl dX3_trace_4 hP hD hS

def f_X3_fault (o : zS)  : Option (Int32) :=
  some (o 6 0)
set_option maxHeartbeats 4000000 in
set_option maxRecDepth 100000 in
theorem c_X3_fault {l : Launch} {D : va_G} {ad : Nat → Nat} {cy : Nat → ClassId} {o : zS} {s : zS4} {n : zS} {t : zS} {r : zS} {w : zJ}  {r0 : Int32} (hf : f_X3_fault o = some r0) : zMI l yX3_fault (zW yX3_fault cX3_fault 1 (some .int)) { frames := 0, cells := 0, slots := 0, locals := 0 } D cy [.ref (ad 0)] (wdX ad cy o s n t r w) r0 (wdX ad cy o s n t r w) := by
  unfold f_X3_fault at hf
  refine zEI (ty := .int) (by decide) (Nat.le_of_ble_eq_true rfl) ?_
  intro p e s9 m9 below meth c A Q C0 hret ls hl hP hD
  have hl : lv_has ls 1 [(0, .ref (ad 0))] := hl
  have hS : va_S A s9.heap s9.heap [] := va_S.rf
  obtain ⟨hx, hb, hml, hown, hts⟩ := id C0.1
  refine lv_aload_n hx hb dX3_fault_0 rfl (lv_at hl 0 rfl) ?_
  refine gf_X3_42 C0 hP 0 wdX_0 rfl dX3_fault_1 ?_
  obtain rfl := Option.some.inj hf
  exact hret _ _ _ _ rfl dX3_fault_4 hP hD hS

def f_X3_many (n : zS) (r : zS) (x1 : Int32) : Option (Int32) :=
  if x1 = 0 then (
  some (n 8 0)) else (
  if x1 = 1 then (
  some (n 9 0)) else (
  if x1 = 2 then (
  zq_b1 (f_X2_deadModules n) (fun r5 =>
  some r5)) else (
  if x1 = 3 then (
  zq_b1 (f_X2_lightTogether n) (fun r8 =>
  some r8)) else (
  if x1 = 4 then (
  some (r 3 0)) else (
  if x1 = 5 then (
  some (n 10 0)) else (
  some (-2)))))))
set_option maxHeartbeats 4000000 in
set_option maxRecDepth 100000 in
theorem c_X3_many {l : Launch} {D : va_G} {ad : Nat → Nat} {cy : Nat → ClassId} {o : zS} {s : zS4} {n : zS} {t : zS} {r : zS} {w : zJ} {x1 : Int32} {r0 : Int32} (hf : f_X3_many n r x1 = some r0) : zMI l yX3_many (zW yX3_many cX3_many 2 (some .int)) { frames := 3, cells := 0, slots := 0, locals := 66 } D cy [.ref (ad 0), .int x1] (wdX ad cy o s n t r w) r0 (wdX ad cy o s n t r w) := by
  unfold f_X3_many at hf
  refine zEI (ty := .int) (by decide) (Nat.le_of_ble_eq_true rfl) ?_
  intro p e s9 m9 below meth c A Q C0 hret ls hl hP hD
  have hl : lv_has ls 2 [(0, .ref (ad 0)), (1, .int x1)] := hl
  have hS : va_S A s9.heap s9.heap [] := va_S.rf
  obtain ⟨hx, hb, hml, hown, hts⟩ := id C0.1
  refine lv_iload_n hx hb dX3_many_0 rfl (lv_at hl 1 rfl) ?_
  by_cases c1 : x1 = 0
  · have hf := it_t c1 hf
    refine lv_tableIn (off := 39) (tgt := 40) hx hb dX3_many_1 (by rw [c1]; decide) (by rw [c1]; decide) (by rw [c1]; rfl) (by decide) ?_
    refine lv_aload_n hx hb dX3_many_40 rfl (lv_at hl 0 rfl) ?_
    refine gf_X3_20 C0 hP 0 wdX_0 rfl dX3_many_41 ?_
    refine gf_X3_72 C0 hP 10 wdX_10 rfl dX3_many_44 ?_
    obtain rfl := Option.some.inj hf
    exact hret _ _ _ _ rfl dX3_many_47 hP hD hS
  have hf := it_f c1 hf
  by_cases c2 : x1 = 1
  · have hf := it_t c2 hf
    refine lv_tableIn (off := 47) (tgt := 48) hx hb dX3_many_1 (by rw [c2]; decide) (by rw [c2]; decide) (by rw [c2]; rfl) (by decide) ?_
    refine lv_aload_n hx hb dX3_many_48 rfl (lv_at hl 0 rfl) ?_
    refine gf_X3_20 C0 hP 0 wdX_0 rfl dX3_many_49 ?_
    refine gf_X3_241 C0 hP 10 wdX_10 rfl dX3_many_52 ?_
    obtain rfl := Option.some.inj hf
    exact hret _ _ _ _ rfl dX3_many_55 hP hD hS
  have hf := it_f c2 hf
  by_cases c3 : x1 = 2
  · have hf := it_t c3 hf
    refine lv_tableIn (off := 55) (tgt := 56) hx hb dX3_many_1 (by rw [c3]; decide) (by rw [c3]; decide) (by rw [c3]; rfl) (by decide) ?_
    refine lv_aload_n hx hb dX3_many_56 rfl (lv_at hl 0 rfl) ?_
    refine gf_X3_20 C0 hP 0 wdX_0 rfl dX3_many_57 ?_
    obtain ⟨r5, hc4, hf⟩ := zq_b1_s hf
    refine zVI (ws' := (wdX ad cy o s n t r w)) (rest := []) C0 (fun _ h => h) fX_n (c_X2_deadModules (ad := fun j => ad (10 + j)) hc4) hP hD hS my_X2_deadModules kl_X3_244 ⟨rfl, rfl⟩ ⟨Nat.le_of_ble_eq_true rfl, Nat.le_of_ble_eq_true rfl⟩ (q0 := 10) (ci := 2) rfl wdX_10 rfl hl.1 rfl (Nat.le_of_ble_eq_true rfl) dX3_many_60 ⟨Nat.zero_le _, Nat.zero_le _⟩ (fun H locs hP hD hS => ?_)
    obtain rfl := Option.some.inj hf
    exact hret _ _ _ _ rfl dX3_many_63 hP hD hS
  have hf := it_f c3 hf
  by_cases c6 : x1 = 3
  · have hf := it_t c6 hf
    refine lv_tableIn (off := 63) (tgt := 64) hx hb dX3_many_1 (by rw [c6]; decide) (by rw [c6]; decide) (by rw [c6]; rfl) (by decide) ?_
    refine lv_aload_n hx hb dX3_many_64 rfl (lv_at hl 0 rfl) ?_
    refine gf_X3_20 C0 hP 0 wdX_0 rfl dX3_many_65 ?_
    obtain ⟨r8, hc7, hf⟩ := zq_b1_s hf
    refine zVI (ws' := (wdX ad cy o s n t r w)) (rest := []) C0 (fun _ h => h) fX_n (c_X2_lightTogether (ad := fun j => ad (10 + j)) hc7) hP hD hS my_X2_lightTogether kl_X3_247 ⟨rfl, rfl⟩ ⟨Nat.le_of_ble_eq_true rfl, Nat.le_of_ble_eq_true rfl⟩ (q0 := 10) (ci := 2) rfl wdX_10 rfl hl.1 rfl (Nat.le_of_ble_eq_true rfl) dX3_many_68 ⟨Nat.zero_le _, Nat.zero_le _⟩ (fun H locs hP hD hS => ?_)
    obtain rfl := Option.some.inj hf
    exact hret _ _ _ _ rfl dX3_many_71 hP hD hS
  have hf := it_f c6 hf
  by_cases c9 : x1 = 4
  · have hf := it_t c9 hf
    refine lv_tableIn (off := 71) (tgt := 72) hx hb dX3_many_1 (by rw [c9]; decide) (by rw [c9]; decide) (by rw [c9]; rfl) (by decide) ?_
    refine lv_aload_n hx hb dX3_many_72 rfl (lv_at hl 0 rfl) ?_
    refine gf_X3_30 C0 hP 0 wdX_0 rfl dX3_many_73 ?_
    refine gf_X3_69 C0 hP 28 wdX_28 rfl dX3_many_76 ?_
    obtain rfl := Option.some.inj hf
    exact hret _ _ _ _ rfl dX3_many_79 hP hD hS
  have hf := it_f c9 hf
  by_cases c10 : x1 = 5
  · have hf := it_t c10 hf
    refine lv_tableIn (off := 79) (tgt := 80) hx hb dX3_many_1 (by rw [c10]; decide) (by rw [c10]; decide) (by rw [c10]; rfl) (by decide) ?_
    refine lv_aload_n hx hb dX3_many_80 rfl (lv_at hl 0 rfl) ?_
    refine gf_X3_20 C0 hP 0 wdX_0 rfl dX3_many_81 ?_
    refine gf_X3_129 C0 hP 10 wdX_10 rfl dX3_many_84 ?_
    obtain rfl := Option.some.inj hf
    exact hret _ _ _ _ rfl dX3_many_87 hP hD hS
  have hf := it_f c10 hf
  refine lv_tableOut (tgt := 88) hx hb dX3_many_1 (by have := lv_neT c1 (show (0 : Int32).toInt = 0 by decide); have := lv_neT c2 (show (1 : Int32).toInt = 1 by decide); have := lv_neT c3 (show (2 : Int32).toInt = 2 by decide); have := lv_neT c6 (show (3 : Int32).toInt = 3 by decide); have := lv_neT c9 (show (4 : Int32).toInt = 4 by decide); have := lv_neT c10 (show (5 : Int32).toInt = 5 by decide); omega) (by decide) ?_
  refine lv_bipush (v := (-2)) hx hb dX3_many_88 (by decide) ?_
  obtain rfl := Option.some.inj hf
  exact hret _ _ _ _ rfl dX3_many_90 hP hD hS
