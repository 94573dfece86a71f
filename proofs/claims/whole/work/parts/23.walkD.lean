def f_X3_wall (o : zS) (s : zS4) (n : zS) (t : zS) (r : zS) (x1 : Int32) (x2 : Int32) (x3 : Int32) (x4 : Int32) : Option (Int32 × zS × zS × zS × zS) :=
  zq_lt (va_up o 6 (fun _ => 0)) (fun o1 =>
  zq_b1 (f_X3_isSheet x1) (fun r3 =>
  if r3 = 0 then (
  some ((-1), o1, n, t, r)) else (
  zq_b1 (f_X3_isLane x2) (fun r6 =>
  if r6 = 0 then (
  some ((-2), o1, n, t, r)) else (
  zq_in 4 x1 (
  zq_b1 (f_X1_faultOfCells (s (Int32.toNatClampNeg x1)) x2 x3 x4) (fun r11 =>
  if r11 = 0 then (
  zq_b2 (f_X2_readText t (s (Int32.toNatClampNeg x1)) x3 x4) (fun r14 t15 =>
  if r14 = (-9) then (
  zq_b1 (f_X2_becomeLike n t15) (fun n18 =>
  zq_lt (va_up r 3 (fun _ => 0)) (fun r19 =>
  some ((n18 8 0), o1, n18, t15, r19)))) else (
  some (((-100) - r14), o1, n, t15, r)))) else (
  zq_b2 (f_X3_faulted o1 r11) (fun r21 o22 =>
  some (r21, o22, n, t, r))))))))))
set_option maxHeartbeats 4000000 in
set_option maxRecDepth 100000 in
theorem c_X3_wall {l : Launch} {D : va_G} {ad : Nat → Nat} {cy : Nat → ClassId} {o : zS} {s : zS4} {n : zS} {t : zS} {r : zS} {w : zJ} {x1 : Int32} {x2 : Int32} {x3 : Int32} {x4 : Int32} {r0 : Int32} {o' : zS} {n' : zS} {t' : zS} {r' : zS} (hf : f_X3_wall o s n t r x1 x2 x3 x4 = some (r0, o', n', t', r')) : zMI l yX3_wall (zW yX3_wall cX3_wall 8 (some .int)) { frames := 5, cells := 0, slots := 0, locals := 116 } D cy [.ref (ad 0), .int x1, .int x2, .int x3, .int x4] (wdX ad cy o s n t r w) r0 (wdX ad cy o' s n' t' r' w) := by
  unfold f_X3_wall at hf
  refine zEI (ty := .int) (by decide) (Nat.le_of_ble_eq_true rfl) ?_
  intro p e s9 m9 below meth c A Q C0 hret ls hl hP hD
  have hl : lv_has ls 8 [(0, .ref (ad 0)), (1, .int x1), (2, .int x2), (3, .int x3), (4, .int x4)] := hl
  have hS : va_S A s9.heap s9.heap [] := va_S.rf
  obtain ⟨hx, hb, hml, hown, hts⟩ := id C0.1
  refine lv_aload_n hx hb dX3_wall_0 rfl (lv_at hl 0 rfl) ?_
  refine lv_iconst (v := 0) hx hb dX3_wall_1 (by decide) ?_
  obtain ⟨o1, eo1, hf⟩ := zq_lt_s hf
  refine pf_X3_42 (ws' := (wdX ad cy o1 s n t r w)) C0 hP hD hS 0 wdX_0 (Nat.le_of_ble_eq_true rfl) (by rw [eo1]; rfl) dX3_wall_2 (fun H locs hP hD hS => ?_)
  refine lv_iload_n hx hb dX3_wall_5 rfl (lv_at hl 1 rfl) ?_
  obtain ⟨r3, hc2, hf⟩ := zq_b1_s hf
  refine zSI (ws' := (wdX ad cy o1 s n t r w)) (rest := []) C0 (fun _ h => h) zF.nil (c_X3_isSheet hc2) hP hD hS my_X3_isSheet kl_X3_46 ⟨rfl, rfl⟩ ⟨Nat.le_of_ble_eq_true rfl, Nat.le_of_ble_eq_true rfl⟩ rfl hl.1 rfl (Nat.le_of_ble_eq_true rfl) dX3_wall_6 ⟨Nat.zero_le _, Nat.zero_le _⟩ (fun H locs hP hD hS => ?_)
  refine lv_if_ne (tgt := 14) hx hb dX3_wall_9 (by decide) (fun c4 => ?_) (fun c4 => ?_)
  · have hf := it_f c4 hf
    refine lv_iload_n hx hb dX3_wall_14 rfl (lv_at hl 2 rfl) ?_
    obtain ⟨r6, hc5, hf⟩ := zq_b1_s hf
    refine zSI (ws' := (wdX ad cy o1 s n t r w)) (rest := []) C0 (fun _ h => h) zF.nil (c_X3_isLane hc5) hP hD hS my_X3_isLane kl_X3_50 ⟨rfl, rfl⟩ ⟨Nat.le_of_ble_eq_true rfl, Nat.le_of_ble_eq_true rfl⟩ rfl hl.1 rfl (Nat.le_of_ble_eq_true rfl) dX3_wall_15 ⟨Nat.zero_le _, Nat.zero_le _⟩ (fun H locs hP hD hS => ?_)
    refine lv_if_ne (tgt := 24) hx hb dX3_wall_18 (by decide) (fun c7 => ?_) (fun c7 => ?_)
    · have hf := it_f c7 hf
      refine lv_aload_n hx hb dX3_wall_24 rfl (lv_at hl 0 rfl) ?_
      refine gf_X3_13 C0 hP 0 wdX_0 rfl dX3_wall_25 ?_
      refine lv_iload_n hx hb dX3_wall_28 rfl (lv_at hl 1 rfl) ?_
      obtain ⟨h8, hf⟩ := zq_in_s hf
      have hk9 := vp_lt h8
      refine zra C0 hP 1 wdX_1 (zRw_at hk9) h8 dX3_wall_29 ?_
      refine lv_astore (lv' := [(5, .ref (ad (2 + 2 * (Int32.toNatClampNeg x1)))), (0, .ref (ad 0)), (1, .int x1), (2, .int x2), (3, .int x3), (4, .int x4)]) hx hb dX3_wall_30 hl (by decide) rfl (fun ls hl => ?_)
      refine lv_aload hx hb dX3_wall_32 (lv_at hl 0 rfl) ?_
      refine lv_iload_n hx hb dX3_wall_34 rfl (lv_at hl 3 rfl) ?_
      refine lv_iload_n hx hb dX3_wall_35 rfl (lv_at hl 4 rfl) ?_
      refine lv_iload hx hb dX3_wall_36 (lv_at hl 5 rfl) ?_
      obtain ⟨r11, hc10, hf⟩ := zq_b1_s hf
      refine zVI (ws' := (wdX ad cy o1 s n t r w)) (rest := []) C0 (fun _ h => h) (fX_s0 hk9) (c_X1_faultOfCells (ad := fun j => ad (2 + 2 * (Int32.toNatClampNeg x1) + j)) hc10) hP hD hS my_X1_faultOfCells kl_X3_53 ⟨rfl, rfl⟩ ⟨Nat.le_of_ble_eq_true rfl, Nat.le_of_ble_eq_true rfl⟩ (q0 := (2 + 2 * (Int32.toNatClampNeg x1))) (ci := 1) rfl (wdX_sh hk9) rfl hl.1 rfl (Nat.le_of_ble_eq_true rfl) dX3_wall_38 ⟨Nat.zero_le _, Nat.zero_le _⟩ (fun H locs hP hD hS => ?_)
      refine lv_istore (lv' := [(6, .int r11), (5, .ref (ad (2 + 2 * (Int32.toNatClampNeg x1)))), (0, .ref (ad 0)), (1, .int x1), (2, .int x2), (3, .int x3), (4, .int x4)]) hx hb dX3_wall_41 hl (by decide) rfl (fun ls hl => ?_)
      refine lv_iload hx hb dX3_wall_43 (lv_at hl 0 rfl) ?_
      refine lv_if_eq (tgt := 55) hx hb dX3_wall_45 (by decide) (fun c12 => ?_) (fun c12 => ?_)
      · have hf := it_t c12 hf
        refine lv_aload_n hx hb dX3_wall_55 rfl (lv_at hl 2 rfl) ?_
        refine gf_X3_24 C0 hP 0 wdX_0 rfl dX3_wall_56 ?_
        refine lv_aload hx hb dX3_wall_59 (lv_at hl 1 rfl) ?_
        refine lv_iload_n hx hb dX3_wall_61 rfl (lv_at hl 5 rfl) ?_
        refine lv_iload hx hb dX3_wall_62 (lv_at hl 6 rfl) ?_
        obtain ⟨r14, t15, hc13, hf⟩ := zq_b2_s hf
        refine zVI (ws' := (wdX ad cy o1 s n t15 r w)) (rest := []) C0 (fun _ h => h) (fX_ts hk9) (c_X2_readText (ad := fun j => ad (19 + j)) (a2 := fun j => ad (2 + 2 * (Int32.toNatClampNeg x1) + j)) hc13) hP hD hS my_X2_readText kl_X3_61 ⟨rfl, rfl⟩ ⟨Nat.le_of_ble_eq_true rfl, Nat.le_of_ble_eq_true rfl⟩ (q0 := 19) (ci := 2) rfl wdX_19 rfl hl.1 rfl (Nat.le_of_ble_eq_true rfl) dX3_wall_64 ⟨Nat.zero_le _, Nat.zero_le _⟩ (fun H locs hP hD hS => ?_)
        refine lv_istore (lv' := [(7, .int r14), (6, .int r11), (5, .ref (ad (2 + 2 * (Int32.toNatClampNeg x1)))), (0, .ref (ad 0)), (1, .int x1), (2, .int x2), (3, .int x3), (4, .int x4)]) hx hb dX3_wall_67 hl (by decide) rfl (fun ls hl => ?_)
        refine lv_iload hx hb dX3_wall_69 (lv_at hl 0 rfl) ?_
        refine lv_bipush (v := (-9)) hx hb dX3_wall_71 (by decide) ?_
        refine lv_icmp_eq (tgt := 82) hx hb dX3_wall_73 (by decide) (fun c16 => ?_) (fun c16 => ?_)
        · have hf := it_t c16 hf
          refine lv_aload_n hx hb dX3_wall_82 rfl (lv_at hl 3 rfl) ?_
          refine gf_X3_20 C0 hP 0 wdX_0 rfl dX3_wall_83 ?_
          refine lv_aload_n hx hb dX3_wall_86 rfl (lv_at hl 3 rfl) ?_
          refine gf_X3_24 C0 hP 0 wdX_0 rfl dX3_wall_87 ?_
          obtain ⟨n18, hc17, hf⟩ := zq_b1_s hf
          refine zVV (ws' := (wdX ad cy o1 s n18 t15 r w)) (rest := []) C0 (fun _ h => h) fX_nt (c_X2_becomeLike (ad := fun j => ad (10 + j)) (a2 := fun j => ad (19 + j)) hc17) hP hD hS my_X2_becomeLike kl_X3_65 ⟨rfl, rfl⟩ ⟨Nat.le_of_ble_eq_true rfl, Nat.le_of_ble_eq_true rfl⟩ (q0 := 10) (ci := 2) rfl wdX_10 rfl hl.1 rfl (Nat.le_of_ble_eq_true rfl) dX3_wall_90 ⟨Nat.zero_le _, Nat.zero_le _⟩ (fun H locs hP hD hS => ?_)
          refine lv_aload_n hx hb dX3_wall_93 rfl (lv_at hl 3 rfl) ?_
          refine gf_X3_30 C0 hP 0 wdX_0 rfl dX3_wall_94 ?_
          refine lv_iconst (v := 0) hx hb dX3_wall_97 (by decide) ?_
          obtain ⟨r19, er19, hf⟩ := zq_lt_s hf
          refine pf_X3_69 (ws' := (wdX ad cy o1 s n18 t15 r19 w)) C0 hP hD hS 28 wdX_28 (Nat.le_of_ble_eq_true rfl) (by rw [er19]; rfl) dX3_wall_98 (fun H locs hP hD hS => ?_)
          refine lv_aload_n hx hb dX3_wall_101 rfl (lv_at hl 3 rfl) ?_
          refine gf_X3_20 C0 hP 0 wdX_0 rfl dX3_wall_102 ?_
          refine gf_X3_72 C0 hP 10 wdX_10 rfl dX3_wall_105 ?_
          obtain ⟨rfl, rfl, rfl, rfl, rfl⟩ := zq_j5 hf
          exact hret _ _ _ _ rfl dX3_wall_108 hP hD hS
        · have hf := it_f c16 hf
          refine lv_bipush (v := (-100)) hx hb dX3_wall_76 (by decide) ?_
          refine lv_iload hx hb dX3_wall_78 (lv_at hl 0 rfl) ?_
          refine lv_isub hx hb dX3_wall_80 ?_
          obtain ⟨rfl, rfl, rfl, rfl, rfl⟩ := zq_j5 hf
          exact hret _ _ _ _ rfl dX3_wall_81 hP hD hS
      · have hf := it_f c12 hf
        refine lv_aload_n hx hb dX3_wall_48 rfl (lv_at hl 2 rfl) ?_
        refine lv_iload hx hb dX3_wall_49 (lv_at hl 0 rfl) ?_
        obtain ⟨r21, o22, hc20, hf⟩ := zq_b2_s hf
        refine zVI (ws' := (wdX ad cy o22 s n t r w)) (rest := []) C0 (fun _ h => h) zF.id (c_X3_faulted hc20) hP hD hS my_X3_faulted kl_X3_57 ⟨rfl, rfl⟩ ⟨Nat.le_of_ble_eq_true rfl, Nat.le_of_ble_eq_true rfl⟩ (q0 := 0) (ci := 3) rfl wdX_0 rfl hl.1 rfl (Nat.le_of_ble_eq_true rfl) dX3_wall_51 ⟨Nat.zero_le _, Nat.zero_le _⟩ (fun H locs hP hD hS => ?_)
        obtain ⟨rfl, rfl, rfl, rfl, rfl⟩ := zq_j5 hf
        exact hret _ _ _ _ rfl dX3_wall_54 hP hD hS
    · have hf := it_t c7 hf
      refine lv_bipush (v := (-2)) hx hb dX3_wall_21 (by decide) ?_
      obtain ⟨rfl, rfl, rfl, rfl, rfl⟩ := zq_j5 hf
      exact hret _ _ _ _ rfl dX3_wall_23 hP hD hS
  · have hf := it_t c4 hf
    refine lv_iconst (v := (-1)) hx hb dX3_wall_12 (by decide) ?_
    obtain ⟨rfl, rfl, rfl, rfl, rfl⟩ := zq_j5 hf
    exact hret _ _ _ _ rfl dX3_wall_13 hP hD hS

def f_X3_ofModule (n : zS) (x1 : Int32) (x2 : Int32) : Option (Int32) :=
  zq_b1 (f_X2_hasModule n x1) (fun r2 =>
  if r2 = 0 then (
  some (-1)) else (
  if x2 = 0 then (
  zq_rd (n 0) 4 x1 (fun v5 =>
  some v5)) else (
  if x2 = 1 then (
  zq_rd (n 2) 4 x1 (fun v8 =>
  some v8)) else (
  if x2 = 2 then (
  zq_rd (n 1) 4 x1 (fun v11 =>
  some v11)) else (
  if x2 = 3 then (
  zq_rd (n 3) 4 x1 (fun v14 =>
  if v14 = 0 then (
  some 0) else (
  some 1))) else (
  if x2 = 4 then (
  zq_b1 (f_X2_placeAmongLiving n x1) (fun r19 =>
  some r19)) else (
  some (-2))))))))
set_option maxHeartbeats 4000000 in
set_option maxRecDepth 100000 in
theorem c_X3_ofModule {l : Launch} {D : va_G} {ad : Nat → Nat} {cy : Nat → ClassId} {o : zS} {s : zS4} {n : zS} {t : zS} {r : zS} {w : zJ} {x1 : Int32} {x2 : Int32} {r0 : Int32} (hf : f_X3_ofModule n x1 x2 = some r0) : zMI l yX3_ofModule (zW yX3_ofModule cX3_ofModule 3 (some .int)) { frames := 1, cells := 0, slots := 0, locals := 23 } D cy [.ref (ad 0), .int x1, .int x2] (wdX ad cy o s n t r w) r0 (wdX ad cy o s n t r w) := by
  unfold f_X3_ofModule at hf
  refine zEI (ty := .int) (by decide) (Nat.le_of_ble_eq_true rfl) ?_
  intro p e s9 m9 below meth c A Q C0 hret ls hl hP hD
  have hl : lv_has ls 3 [(0, .ref (ad 0)), (1, .int x1), (2, .int x2)] := hl
  have hS : va_S A s9.heap s9.heap [] := va_S.rf
  obtain ⟨hx, hb, hml, hown, hts⟩ := id C0.1
  refine lv_aload_n hx hb dX3_ofModule_0 rfl (lv_at hl 0 rfl) ?_
  refine gf_X3_20 C0 hP 0 wdX_0 rfl dX3_ofModule_1 ?_
  refine lv_iload_n hx hb dX3_ofModule_4 rfl (lv_at hl 1 rfl) ?_
  obtain ⟨r2, hc1, hf⟩ := zq_b1_s hf
  refine zVI (ws' := (wdX ad cy o s n t r w)) (rest := []) C0 (fun _ h => h) fX_n (c_X2_hasModule (ad := fun j => ad (10 + j)) hc1) hP hD hS my_X2_hasModule kl_X3_75 ⟨rfl, rfl⟩ ⟨Nat.le_of_ble_eq_true rfl, Nat.le_of_ble_eq_true rfl⟩ (q0 := 10) (ci := 2) rfl wdX_10 rfl hl.1 rfl (Nat.le_of_ble_eq_true rfl) dX3_ofModule_5 ⟨Nat.zero_le _, Nat.zero_le _⟩ (fun H locs hP hD hS => ?_)
  refine lv_if_ne (tgt := 13) hx hb dX3_ofModule_8 (by decide) (fun c3 => ?_) (fun c3 => ?_)
  · have hf := it_f c3 hf
    refine lv_iload_n hx hb dX3_ofModule_13 rfl (lv_at hl 2 rfl) ?_
    by_cases c4 : x2 = 0
    · have hf := it_t c4 hf
      refine lv_tableIn (off := 34) (tgt := 48) hx hb dX3_ofModule_14 (by rw [c4]; decide) (by rw [c4]; decide) (by rw [c4]; rfl) (by decide) ?_
      refine lv_aload_n hx hb dX3_ofModule_48 rfl (lv_at hl 0 rfl) ?_
      refine gf_X3_20 C0 hP 0 wdX_0 rfl dX3_ofModule_49 ?_
      refine gf_X3_78 C0 hP 10 wdX_10 rfl dX3_ofModule_52 ?_
      refine lv_iload_n hx hb dX3_ofModule_55 rfl (lv_at hl 1 rfl) ?_
      obtain ⟨v5, ev5, h6, hf⟩ := zq_rd_s hf
      refine zia C0 hP 11 wdX_11 ev5 h6 dX3_ofModule_56 ?_
      obtain rfl := Option.some.inj hf
      exact hret _ _ _ _ rfl dX3_ofModule_57 hP hD hS
    have hf := it_f c4 hf
    by_cases c7 : x2 = 1
    · have hf := it_t c7 hf
      refine lv_tableIn (off := 44) (tgt := 58) hx hb dX3_ofModule_14 (by rw [c7]; decide) (by rw [c7]; decide) (by rw [c7]; rfl) (by decide) ?_
      refine lv_aload_n hx hb dX3_ofModule_58 rfl (lv_at hl 0 rfl) ?_
      refine gf_X3_20 C0 hP 0 wdX_0 rfl dX3_ofModule_59 ?_
      refine gf_X3_82 C0 hP 10 wdX_10 rfl dX3_ofModule_62 ?_
      refine lv_iload_n hx hb dX3_ofModule_65 rfl (lv_at hl 1 rfl) ?_
      obtain ⟨v8, ev8, h9, hf⟩ := zq_rd_s hf
      refine zia C0 hP 13 wdX_13 ev8 h9 dX3_ofModule_66 ?_
      obtain rfl := Option.some.inj hf
      exact hret _ _ _ _ rfl dX3_ofModule_67 hP hD hS
    have hf := it_f c7 hf
    by_cases c10 : x2 = 2
    · have hf := it_t c10 hf
      refine lv_tableIn (off := 54) (tgt := 68) hx hb dX3_ofModule_14 (by rw [c10]; decide) (by rw [c10]; decide) (by rw [c10]; rfl) (by decide) ?_
      refine lv_aload_n hx hb dX3_ofModule_68 rfl (lv_at hl 0 rfl) ?_
      refine gf_X3_20 C0 hP 0 wdX_0 rfl dX3_ofModule_69 ?_
      refine gf_X3_85 C0 hP 10 wdX_10 rfl dX3_ofModule_72 ?_
      refine lv_iload_n hx hb dX3_ofModule_75 rfl (lv_at hl 1 rfl) ?_
      obtain ⟨v11, ev11, h12, hf⟩ := zq_rd_s hf
      refine zia C0 hP 12 wdX_12 ev11 h12 dX3_ofModule_76 ?_
      obtain rfl := Option.some.inj hf
      exact hret _ _ _ _ rfl dX3_ofModule_77 hP hD hS
    have hf := it_f c10 hf
    by_cases c13 : x2 = 3
    · have hf := it_t c13 hf
      refine lv_tableIn (off := 64) (tgt := 78) hx hb dX3_ofModule_14 (by rw [c13]; decide) (by rw [c13]; decide) (by rw [c13]; rfl) (by decide) ?_
      refine lv_aload_n hx hb dX3_ofModule_78 rfl (lv_at hl 0 rfl) ?_
      refine gf_X3_20 C0 hP 0 wdX_0 rfl dX3_ofModule_79 ?_
      refine gf_X3_88 C0 hP 10 wdX_10 rfl dX3_ofModule_82 ?_
      refine lv_iload_n hx hb dX3_ofModule_85 rfl (lv_at hl 1 rfl) ?_
      obtain ⟨v14, ev14, h15, hf⟩ := zq_rd_s hf
      refine zza C0 hP 14 wdX_14 ev14 h15 dX3_ofModule_86 ?_
      refine lv_if_eq (tgt := 94) hx hb dX3_ofModule_87 (by decide) (fun c16 => ?_) (fun c16 => ?_)
      · have hf := it_t c16 hf
        refine lv_iconst (v := 0) hx hb dX3_ofModule_94 (by decide) ?_
        obtain rfl := Option.some.inj hf
        exact hret _ _ _ _ rfl dX3_ofModule_95 hP hD hS
      · have hf := it_f c16 hf
        refine lv_iconst (v := 1) hx hb dX3_ofModule_90 (by decide) ?_
        refine lv_goto (tgt := 95) hx hb dX3_ofModule_91 (by decide) ?_
        obtain rfl := Option.some.inj hf
        exact hret _ _ _ _ rfl dX3_ofModule_95 hP hD hS
    have hf := it_f c13 hf
    by_cases c17 : x2 = 4
    · have hf := it_t c17 hf
      refine lv_tableIn (off := 82) (tgt := 96) hx hb dX3_ofModule_14 (by rw [c17]; decide) (by rw [c17]; decide) (by rw [c17]; rfl) (by decide) ?_
      refine lv_aload_n hx hb dX3_ofModule_96 rfl (lv_at hl 0 rfl) ?_
      refine gf_X3_20 C0 hP 0 wdX_0 rfl dX3_ofModule_97 ?_
      refine lv_iload_n hx hb dX3_ofModule_100 rfl (lv_at hl 1 rfl) ?_
      obtain ⟨r19, hc18, hf⟩ := zq_b1_s hf
      refine zVI (ws' := (wdX ad cy o s n t r w)) (rest := []) C0 (fun _ h => h) fX_n (c_X2_placeAmongLiving (ad := fun j => ad (10 + j)) hc18) hP hD hS my_X2_placeAmongLiving kl_X3_92 ⟨rfl, rfl⟩ ⟨Nat.le_of_ble_eq_true rfl, Nat.le_of_ble_eq_true rfl⟩ (q0 := 10) (ci := 2) rfl wdX_10 rfl hl.1 rfl (Nat.le_of_ble_eq_true rfl) dX3_ofModule_101 ⟨Nat.zero_le _, Nat.zero_le _⟩ (fun H locs hP hD hS => ?_)
      obtain rfl := Option.some.inj hf
      exact hret _ _ _ _ rfl dX3_ofModule_104 hP hD hS
    have hf := it_f c17 hf
    refine lv_tableOut (tgt := 105) hx hb dX3_ofModule_14 (by have := lv_neT c4 (show (0 : Int32).toInt = 0 by decide); have := lv_neT c7 (show (1 : Int32).toInt = 1 by decide); have := lv_neT c10 (show (2 : Int32).toInt = 2 by decide); have := lv_neT c13 (show (3 : Int32).toInt = 3 by decide); have := lv_neT c17 (show (4 : Int32).toInt = 4 by decide); omega) (by decide) ?_
    refine lv_bipush (v := (-2)) hx hb dX3_ofModule_105 (by decide) ?_
    obtain rfl := Option.some.inj hf
    exact hret _ _ _ _ rfl dX3_ofModule_107 hP hD hS
  · have hf := it_t c3 hf
    refine lv_iconst (v := (-1)) hx hb dX3_ofModule_11 (by decide) ?_
    obtain rfl := Option.some.inj hf
    exact hret _ _ _ _ rfl dX3_ofModule_12 hP hD hS

def f_X3_turnsOf  (x0 : Int32) : Option (Int32) :=
  zq_b1 (f_J6_bitCount_0f7a4 (x0 ^^^ ((x0 >>> (1 &&& 31)) ||| ((x0 &&& 1) <<< (14 &&& 31))))) (fun r2 =>
  some r2)
set_option maxHeartbeats 4000000 in
set_option maxRecDepth 100000 in
theorem c_X3_turnsOf {l : Launch} {D : va_G} {cy : Nat → ClassId}   {x0 : Int32} {r0 : Int32} (hf : f_X3_turnsOf x0 = some r0) : zMI l yX3_turnsOf (zW yX3_turnsOf cX3_turnsOf 2 (some .int)) { frames := 1, cells := 0, slots := 0, locals := 20 } D cy [.int x0] [] r0 [] := by
  unfold f_X3_turnsOf at hf
  refine zEI (ty := .int) (by decide) (Nat.le_of_ble_eq_true rfl) ?_
  intro p e s9 m9 below meth c A Q C0 hret ls hl hP hD
  have hl : lv_has ls 2 [(0, .int x0)] := hl
  have hS : va_S A s9.heap s9.heap [] := va_S.rf
  obtain ⟨hx, hb, hml, hown, hts⟩ := id C0.1
  refine lv_iload_n hx hb dX3_turnsOf_0 rfl (lv_at hl 0 rfl) ?_
  refine lv_iconst (v := 1) hx hb dX3_turnsOf_1 (by decide) ?_
  refine lv_ishr hx hb dX3_turnsOf_2 ?_
  refine lv_iload_n hx hb dX3_turnsOf_3 rfl (lv_at hl 0 rfl) ?_
  refine lv_iconst (v := 1) hx hb dX3_turnsOf_4 (by decide) ?_
  refine lv_iand hx hb dX3_turnsOf_5 ?_
  refine lv_bipush (v := 14) hx hb dX3_turnsOf_6 (by decide) ?_
  refine lv_ishl hx hb dX3_turnsOf_8 ?_
  refine lv_ior hx hb dX3_turnsOf_9 ?_
  refine lv_istore_n (lv' := [(1, .int ((x0 >>> (1 &&& 31)) ||| ((x0 &&& 1) <<< (14 &&& 31)))), (0, .int x0)]) hx hb dX3_turnsOf_10 rfl hl (by decide) rfl (fun ls hl => ?_)
  refine lv_iload_n hx hb dX3_turnsOf_11 rfl (lv_at hl 1 rfl) ?_
  refine lv_iload_n hx hb dX3_turnsOf_12 rfl (lv_at hl 0 rfl) ?_
  refine lv_ixor hx hb dX3_turnsOf_13 ?_
  obtain ⟨r2, hc1, hf⟩ := zq_b1_s hf
  refine zSI (ws' := []) (rest := []) C0 (fun _ h => h) zF.nil (c_J6_bitCount_0f7a4 hc1) hP hD hS my_J6_bitCount_0f7a4 kl_X3_280 ⟨rfl, rfl⟩ ⟨Nat.le_of_ble_eq_true rfl, Nat.le_of_ble_eq_true rfl⟩ rfl hl.1 rfl (Nat.le_of_ble_eq_true rfl) dX3_turnsOf_14 ⟨Nat.zero_le _, Nat.zero_le _⟩ (fun H locs hP hD hS => ?_)
  obtain rfl := Option.some.inj hf
  exact hret _ _ _ _ rfl dX3_turnsOf_17 hP hD hS

def f_X3_ofLamp (n : zS) (x1 : Int32) (x2 : Int32) : Option (Int32) :=
  zq_b1 (f_X2_hasLamp n x1) (fun r2 =>
  if r2 = 0 then (
  some (-1)) else (
  if x2 = 0 then (
  zq_rd (n 5) 16 x1 (fun v5 =>
  some v5)) else (
  if x2 = 1 then (
  zq_rd (n 4) 16 x1 (fun v8 =>
  some v8)) else (
  if x2 = 2 then (
  zq_b1 (f_X2_lightOf n x1) (fun r12 =>
  some r12)) else (
  if x2 = 3 then (
  zq_b1 (f_X2_litUnits n x1) (fun r15 =>
  zq_b1 (f_X3_darkestStretch r15) (fun r17 =>
  some r17))) else (
  if x2 = 4 then (
  zq_b1 (f_X2_litUnits n x1) (fun r20 =>
  zq_b1 (f_X3_turnsOf r20) (fun r22 =>
  some r22))) else (
  if x2 = 5 then (
  zq_b1 (f_X2_litUnits n x1) (fun r25 =>
  some r25)) else (
  if x2 = 6 then (
  zq_b1 (f_X2_ghostUnits n x1) (fun r28 =>
  some r28)) else (
  some (-2))))))))))
set_option maxHeartbeats 4000000 in
set_option maxRecDepth 100000 in
theorem c_X3_ofLamp {l : Launch} {D : va_G} {ad : Nat → Nat} {cy : Nat → ClassId} {o : zS} {s : zS4} {n : zS} {t : zS} {r : zS} {w : zJ} {x1 : Int32} {x2 : Int32} {r0 : Int32} (hf : f_X3_ofLamp n x1 x2 = some r0) : zMI l yX3_ofLamp (zW yX3_ofLamp cX3_ofLamp 3 (some .int)) { frames := 4, cells := 0, slots := 0, locals := 90 } D cy [.ref (ad 0), .int x1, .int x2] (wdX ad cy o s n t r w) r0 (wdX ad cy o s n t r w) := by
  unfold f_X3_ofLamp at hf
  refine zEI (ty := .int) (by decide) (Nat.le_of_ble_eq_true rfl) ?_
  intro p e s9 m9 below meth c A Q C0 hret ls hl hP hD
  have hl : lv_has ls 3 [(0, .ref (ad 0)), (1, .int x1), (2, .int x2)] := hl
  have hS : va_S A s9.heap s9.heap [] := va_S.rf
  obtain ⟨hx, hb, hml, hown, hts⟩ := id C0.1
  refine lv_aload_n hx hb dX3_ofLamp_0 rfl (lv_at hl 0 rfl) ?_
  refine gf_X3_20 C0 hP 0 wdX_0 rfl dX3_ofLamp_1 ?_
  refine lv_iload_n hx hb dX3_ofLamp_4 rfl (lv_at hl 1 rfl) ?_
  obtain ⟨r2, hc1, hf⟩ := zq_b1_s hf
  refine zVI (ws' := (wdX ad cy o s n t r w)) (rest := []) C0 (fun _ h => h) fX_n (c_X2_hasLamp (ad := fun j => ad (10 + j)) hc1) hP hD hS my_X2_hasLamp kl_X3_95 ⟨rfl, rfl⟩ ⟨Nat.le_of_ble_eq_true rfl, Nat.le_of_ble_eq_true rfl⟩ (q0 := 10) (ci := 2) rfl wdX_10 rfl hl.1 rfl (Nat.le_of_ble_eq_true rfl) dX3_ofLamp_5 ⟨Nat.zero_le _, Nat.zero_le _⟩ (fun H locs hP hD hS => ?_)
  refine lv_if_ne (tgt := 13) hx hb dX3_ofLamp_8 (by decide) (fun c3 => ?_) (fun c3 => ?_)
  · have hf := it_f c3 hf
    refine lv_iload_n hx hb dX3_ofLamp_13 rfl (lv_at hl 2 rfl) ?_
    by_cases c4 : x2 = 0
    · have hf := it_t c4 hf
      refine lv_tableIn (off := 42) (tgt := 56) hx hb dX3_ofLamp_14 (by rw [c4]; decide) (by rw [c4]; decide) (by rw [c4]; rfl) (by decide) ?_
      refine lv_aload_n hx hb dX3_ofLamp_56 rfl (lv_at hl 0 rfl) ?_
      refine gf_X3_20 C0 hP 0 wdX_0 rfl dX3_ofLamp_57 ?_
      refine gf_X3_98 C0 hP 10 wdX_10 rfl dX3_ofLamp_60 ?_
      refine lv_iload_n hx hb dX3_ofLamp_63 rfl (lv_at hl 1 rfl) ?_
      obtain ⟨v5, ev5, h6, hf⟩ := zq_rd_s hf
      refine zia C0 hP 16 wdX_16 ev5 h6 dX3_ofLamp_64 ?_
      obtain rfl := Option.some.inj hf
      exact hret _ _ _ _ rfl dX3_ofLamp_65 hP hD hS
    have hf := it_f c4 hf
    by_cases c7 : x2 = 1
    · have hf := it_t c7 hf
      refine lv_tableIn (off := 52) (tgt := 66) hx hb dX3_ofLamp_14 (by rw [c7]; decide) (by rw [c7]; decide) (by rw [c7]; rfl) (by decide) ?_
      refine lv_aload_n hx hb dX3_ofLamp_66 rfl (lv_at hl 0 rfl) ?_
      refine gf_X3_20 C0 hP 0 wdX_0 rfl dX3_ofLamp_67 ?_
      refine gf_X3_101 C0 hP 10 wdX_10 rfl dX3_ofLamp_70 ?_
      refine lv_iload_n hx hb dX3_ofLamp_73 rfl (lv_at hl 1 rfl) ?_
      obtain ⟨v8, ev8, h9, hf⟩ := zq_rd_s hf
      refine zia C0 hP 15 wdX_15 ev8 h9 dX3_ofLamp_74 ?_
      obtain rfl := Option.some.inj hf
      exact hret _ _ _ _ rfl dX3_ofLamp_75 hP hD hS
    have hf := it_f c7 hf
    by_cases c10 : x2 = 2
    · have hf := it_t c10 hf
      refine lv_tableIn (off := 62) (tgt := 76) hx hb dX3_ofLamp_14 (by rw [c10]; decide) (by rw [c10]; decide) (by rw [c10]; rfl) (by decide) ?_
      refine lv_aload_n hx hb dX3_ofLamp_76 rfl (lv_at hl 0 rfl) ?_
      refine gf_X3_20 C0 hP 0 wdX_0 rfl dX3_ofLamp_77 ?_
      refine lv_iload_n hx hb dX3_ofLamp_80 rfl (lv_at hl 1 rfl) ?_
      obtain ⟨r12, hc11, hf⟩ := zq_b1_s hf
      refine zVI (ws' := (wdX ad cy o s n t r w)) (rest := []) C0 (fun _ h => h) fX_n (c_X2_lightOf (ad := fun j => ad (10 + j)) hc11) hP hD hS my_X2_lightOf kl_X3_104 ⟨rfl, rfl⟩ ⟨Nat.le_of_ble_eq_true rfl, Nat.le_of_ble_eq_true rfl⟩ (q0 := 10) (ci := 2) rfl wdX_10 rfl hl.1 rfl (Nat.le_of_ble_eq_true rfl) dX3_ofLamp_81 ⟨Nat.zero_le _, Nat.zero_le _⟩ (fun H locs hP hD hS => ?_)
      obtain rfl := Option.some.inj hf
      exact hret _ _ _ _ rfl dX3_ofLamp_84 hP hD hS
    have hf := it_f c10 hf
    by_cases c13 : x2 = 3
    · have hf := it_t c13 hf
      refine lv_tableIn (off := 71) (tgt := 85) hx hb dX3_ofLamp_14 (by rw [c13]; decide) (by rw [c13]; decide) (by rw [c13]; rfl) (by decide) ?_
      refine lv_aload_n hx hb dX3_ofLamp_85 rfl (lv_at hl 0 rfl) ?_
      refine gf_X3_20 C0 hP 0 wdX_0 rfl dX3_ofLamp_86 ?_
      refine lv_iload_n hx hb dX3_ofLamp_89 rfl (lv_at hl 1 rfl) ?_
      obtain ⟨r15, hc14, hf⟩ := zq_b1_s hf
      refine zVI (ws' := (wdX ad cy o s n t r w)) (rest := []) C0 (fun _ h => h) fX_n (c_X2_litUnits (ad := fun j => ad (10 + j)) hc14) hP hD hS my_X2_litUnits kl_X3_107 ⟨rfl, rfl⟩ ⟨Nat.le_of_ble_eq_true rfl, Nat.le_of_ble_eq_true rfl⟩ (q0 := 10) (ci := 2) rfl wdX_10 rfl hl.1 rfl (Nat.le_of_ble_eq_true rfl) dX3_ofLamp_90 ⟨Nat.zero_le _, Nat.zero_le _⟩ (fun H locs hP hD hS => ?_)
      obtain ⟨r17, hc16, hf⟩ := zq_b1_s hf
      refine zSI (ws' := (wdX ad cy o s n t r w)) (rest := []) C0 (fun _ h => h) zF.nil (c_X3_darkestStretch hc16) hP hD hS my_X3_darkestStretch kl_X3_110 ⟨rfl, rfl⟩ ⟨Nat.le_of_ble_eq_true rfl, Nat.le_of_ble_eq_true rfl⟩ rfl hl.1 rfl (Nat.le_of_ble_eq_true rfl) dX3_ofLamp_93 ⟨Nat.zero_le _, Nat.zero_le _⟩ (fun H locs hP hD hS => ?_)
      obtain rfl := Option.some.inj hf
      exact hret _ _ _ _ rfl dX3_ofLamp_96 hP hD hS
    have hf := it_f c13 hf
    by_cases c18 : x2 = 4
    · have hf := it_t c18 hf
      refine lv_tableIn (off := 83) (tgt := 97) hx hb dX3_ofLamp_14 (by rw [c18]; decide) (by rw [c18]; decide) (by rw [c18]; rfl) (by decide) ?_
      refine lv_aload_n hx hb dX3_ofLamp_97 rfl (lv_at hl 0 rfl) ?_
      refine gf_X3_20 C0 hP 0 wdX_0 rfl dX3_ofLamp_98 ?_
      refine lv_iload_n hx hb dX3_ofLamp_101 rfl (lv_at hl 1 rfl) ?_
      obtain ⟨r20, hc19, hf⟩ := zq_b1_s hf
      refine zVI (ws' := (wdX ad cy o s n t r w)) (rest := []) C0 (fun _ h => h) fX_n (c_X2_litUnits (ad := fun j => ad (10 + j)) hc19) hP hD hS my_X2_litUnits kl_X3_107 ⟨rfl, rfl⟩ ⟨Nat.le_of_ble_eq_true rfl, Nat.le_of_ble_eq_true rfl⟩ (q0 := 10) (ci := 2) rfl wdX_10 rfl hl.1 rfl (Nat.le_of_ble_eq_true rfl) dX3_ofLamp_102 ⟨Nat.zero_le _, Nat.zero_le _⟩ (fun H locs hP hD hS => ?_)
      obtain ⟨r22, hc21, hf⟩ := zq_b1_s hf
      refine zSI (ws' := (wdX ad cy o s n t r w)) (rest := []) C0 (fun _ h => h) zF.nil (c_X3_turnsOf hc21) hP hD hS my_X3_turnsOf kl_X3_113 ⟨rfl, rfl⟩ ⟨Nat.le_of_ble_eq_true rfl, Nat.le_of_ble_eq_true rfl⟩ rfl hl.1 rfl (Nat.le_of_ble_eq_true rfl) dX3_ofLamp_105 ⟨Nat.zero_le _, Nat.zero_le _⟩ (fun H locs hP hD hS => ?_)
      obtain rfl := Option.some.inj hf
      exact hret _ _ _ _ rfl dX3_ofLamp_108 hP hD hS
    have hf := it_f c18 hf
    by_cases c23 : x2 = 5
    · have hf := it_t c23 hf
      refine lv_tableIn (off := 95) (tgt := 109) hx hb dX3_ofLamp_14 (by rw [c23]; decide) (by rw [c23]; decide) (by rw [c23]; rfl) (by decide) ?_
      refine lv_aload_n hx hb dX3_ofLamp_109 rfl (lv_at hl 0 rfl) ?_
      refine gf_X3_20 C0 hP 0 wdX_0 rfl dX3_ofLamp_110 ?_
      refine lv_iload_n hx hb dX3_ofLamp_113 rfl (lv_at hl 1 rfl) ?_
      obtain ⟨r25, hc24, hf⟩ := zq_b1_s hf
      refine zVI (ws' := (wdX ad cy o s n t r w)) (rest := []) C0 (fun _ h => h) fX_n (c_X2_litUnits (ad := fun j => ad (10 + j)) hc24) hP hD hS my_X2_litUnits kl_X3_107 ⟨rfl, rfl⟩ ⟨Nat.le_of_ble_eq_true rfl, Nat.le_of_ble_eq_true rfl⟩ (q0 := 10) (ci := 2) rfl wdX_10 rfl hl.1 rfl (Nat.le_of_ble_eq_true rfl) dX3_ofLamp_114 ⟨Nat.zero_le _, Nat.zero_le _⟩ (fun H locs hP hD hS => ?_)
      obtain rfl := Option.some.inj hf
      exact hret _ _ _ _ rfl dX3_ofLamp_117 hP hD hS
    have hf := it_f c23 hf
    by_cases c26 : x2 = 6
    · have hf := it_t c26 hf
      refine lv_tableIn (off := 104) (tgt := 118) hx hb dX3_ofLamp_14 (by rw [c26]; decide) (by rw [c26]; decide) (by rw [c26]; rfl) (by decide) ?_
      refine lv_aload_n hx hb dX3_ofLamp_118 rfl (lv_at hl 0 rfl) ?_
      refine gf_X3_20 C0 hP 0 wdX_0 rfl dX3_ofLamp_119 ?_
      refine lv_iload_n hx hb dX3_ofLamp_122 rfl (lv_at hl 1 rfl) ?_
      obtain ⟨r28, hc27, hf⟩ := zq_b1_s hf
      refine zVI (ws' := (wdX ad cy o s n t r w)) (rest := []) C0 (fun _ h => h) fX_n (c_X2_ghostUnits (ad := fun j => ad (10 + j)) hc27) hP hD hS my_X2_ghostUnits kl_X3_116 ⟨rfl, rfl⟩ ⟨Nat.le_of_ble_eq_true rfl, Nat.le_of_ble_eq_true rfl⟩ (q0 := 10) (ci := 2) rfl wdX_10 rfl hl.1 rfl (Nat.le_of_ble_eq_true rfl) dX3_ofLamp_123 ⟨Nat.zero_le _, Nat.zero_le _⟩ (fun H locs hP hD hS => ?_)
      obtain rfl := Option.some.inj hf
      exact hret _ _ _ _ rfl dX3_ofLamp_126 hP hD hS
    have hf := it_f c26 hf
    refine lv_tableOut (tgt := 127) hx hb dX3_ofLamp_14 (by have := lv_neT c4 (show (0 : Int32).toInt = 0 by decide); have := lv_neT c7 (show (1 : Int32).toInt = 1 by decide); have := lv_neT c10 (show (2 : Int32).toInt = 2 by decide); have := lv_neT c13 (show (3 : Int32).toInt = 3 by decide); have := lv_neT c18 (show (4 : Int32).toInt = 4 by decide); have := lv_neT c23 (show (5 : Int32).toInt = 5 by decide); have := lv_neT c26 (show (6 : Int32).toInt = 6 by decide); omega) (by decide) ?_
    refine lv_bipush (v := (-2)) hx hb dX3_ofLamp_127 (by decide) ?_
    obtain rfl := Option.some.inj hf
    exact hret _ _ _ _ rfl dX3_ofLamp_129 hP hD hS
  · have hf := it_t c3 hf
    refine lv_iconst (v := (-1)) hx hb dX3_ofLamp_11 (by decide) ?_
    obtain rfl := Option.some.inj hf
    exact hret _ _ _ _ rfl dX3_ofLamp_12 hP hD hS

def f_X3_level (n : zS) (x1 : Int32) (x2 : Int32) : Option (Int32 × zS) :=
  zq_b1 (f_X2_hasLamp n x1) (fun r2 =>
  if r2 = 0 then (
  some ((-1), n)) else (
  zq_b1 (f_X3_isLevel x2) (fun r5 =>
  if r5 = 0 then (
  some ((-2), n)) else (
  zq_rd (n 4) 16 x1 (fun v7 =>
  zq_in 16 x1 (zq_lt (va_up n 4 (upd (n 4) (Int32.toNatClampNeg x1) x2)) (fun n10 =>
  some (v7, n10))))))))
set_option maxHeartbeats 4000000 in
set_option maxRecDepth 100000 in
theorem c_X3_level {l : Launch} {D : va_G} {ad : Nat → Nat} {cy : Nat → ClassId} {o : zS} {s : zS4} {n : zS} {t : zS} {r : zS} {w : zJ} {x1 : Int32} {x2 : Int32} {r0 : Int32} {n' : zS} (hf : f_X3_level n x1 x2 = some (r0, n')) : zMI l yX3_level (zW yX3_level cX3_level 4 (some .int)) { frames := 1, cells := 0, slots := 0, locals := 21 } D cy [.ref (ad 0), .int x1, .int x2] (wdX ad cy o s n t r w) r0 (wdX ad cy o s n' t r w) := by
  unfold f_X3_level at hf
  refine zEI (ty := .int) (by decide) (Nat.le_of_ble_eq_true rfl) ?_
  intro p e s9 m9 below meth c A Q C0 hret ls hl hP hD
  have hl : lv_has ls 4 [(0, .ref (ad 0)), (1, .int x1), (2, .int x2)] := hl
  have hS : va_S A s9.heap s9.heap [] := va_S.rf
  obtain ⟨hx, hb, hml, hown, hts⟩ := id C0.1
  refine lv_aload_n hx hb dX3_level_0 rfl (lv_at hl 0 rfl) ?_
  refine gf_X3_20 C0 hP 0 wdX_0 rfl dX3_level_1 ?_
  refine lv_iload_n hx hb dX3_level_4 rfl (lv_at hl 1 rfl) ?_
  obtain ⟨r2, hc1, hf⟩ := zq_b1_s hf
  refine zVI (ws' := (wdX ad cy o s n t r w)) (rest := []) C0 (fun _ h => h) fX_n (c_X2_hasLamp (ad := fun j => ad (10 + j)) hc1) hP hD hS my_X2_hasLamp kl_X3_95 ⟨rfl, rfl⟩ ⟨Nat.le_of_ble_eq_true rfl, Nat.le_of_ble_eq_true rfl⟩ (q0 := 10) (ci := 2) rfl wdX_10 rfl hl.1 rfl (Nat.le_of_ble_eq_true rfl) dX3_level_5 ⟨Nat.zero_le _, Nat.zero_le _⟩ (fun H locs hP hD hS => ?_)
  refine lv_if_ne (tgt := 13) hx hb dX3_level_8 (by decide) (fun c3 => ?_) (fun c3 => ?_)
  · have hf := it_f c3 hf
    refine lv_iload_n hx hb dX3_level_13 rfl (lv_at hl 2 rfl) ?_
    obtain ⟨r5, hc4, hf⟩ := zq_b1_s hf
    refine zSI (ws' := (wdX ad cy o s n t r w)) (rest := []) C0 (fun _ h => h) zF.nil (c_X3_isLevel hc4) hP hD hS my_X3_isLevel kl_X3_119 ⟨rfl, rfl⟩ ⟨Nat.le_of_ble_eq_true rfl, Nat.le_of_ble_eq_true rfl⟩ rfl hl.1 rfl (Nat.le_of_ble_eq_true rfl) dX3_level_14 ⟨Nat.zero_le _, Nat.zero_le _⟩ (fun H locs hP hD hS => ?_)
    refine lv_if_ne (tgt := 23) hx hb dX3_level_17 (by decide) (fun c6 => ?_) (fun c6 => ?_)
    · have hf := it_f c6 hf
      refine lv_aload_n hx hb dX3_level_23 rfl (lv_at hl 0 rfl) ?_
      refine gf_X3_20 C0 hP 0 wdX_0 rfl dX3_level_24 ?_
      refine gf_X3_101 C0 hP 10 wdX_10 rfl dX3_level_27 ?_
      refine lv_iload_n hx hb dX3_level_30 rfl (lv_at hl 1 rfl) ?_
      obtain ⟨v7, ev7, h8, hf⟩ := zq_rd_s hf
      refine zia C0 hP 15 wdX_15 ev7 h8 dX3_level_31 ?_
      refine lv_istore_n (lv' := [(3, .int v7), (0, .ref (ad 0)), (1, .int x1), (2, .int x2)]) hx hb dX3_level_32 rfl hl (by decide) rfl (fun ls hl => ?_)
      refine lv_aload_n hx hb dX3_level_33 rfl (lv_at hl 1 rfl) ?_
      refine gf_X3_20 C0 hP 0 wdX_0 rfl dX3_level_34 ?_
      refine gf_X3_101 C0 hP 10 wdX_10 rfl dX3_level_37 ?_
      refine lv_iload_n hx hb dX3_level_40 rfl (lv_at hl 2 rfl) ?_
      refine lv_iload_n hx hb dX3_level_41 rfl (lv_at hl 3 rfl) ?_
      obtain ⟨h9, hf⟩ := zq_in_s hf
      obtain ⟨n10, en10, hf⟩ := zq_lt_s hf
      refine zis (ws' := (wdX ad cy o s n10 t r w)) C0 hP hD hS 15 wdX_15 h9 (by rw [en10]; rfl) dX3_level_42 (fun H locs hP hD hS => ?_)
      refine lv_iload_n hx hb dX3_level_43 rfl (lv_at hl 0 rfl) ?_
      obtain ⟨rfl, rfl⟩ := zq_j2 hf
      exact hret _ _ _ _ rfl dX3_level_44 hP hD hS
    · have hf := it_t c6 hf
      refine lv_bipush (v := (-2)) hx hb dX3_level_20 (by decide) ?_
      obtain ⟨rfl, rfl⟩ := zq_j2 hf
      exact hret _ _ _ _ rfl dX3_level_22 hP hD hS
  · have hf := it_t c3 hf
    refine lv_iconst (v := (-1)) hx hb dX3_level_11 (by decide) ?_
    obtain ⟨rfl, rfl⟩ := zq_j2 hf
    exact hret _ _ _ _ rfl dX3_level_12 hP hD hS

def f_X3_die (n : zS) (x1 : Int32) : Option (Int32 × zS) :=
  zq_b1 (f_X2_hasModule n x1) (fun r2 =>
  if r2 = 0 then (
  some ((-1), n)) else (
  zq_rd (n 3) 4 x1 (fun v4 =>
  if v4 = 0 then (
  zq_in 4 x1 (zq_lt (va_up n 3 (upd (n 3) (Int32.toNatClampNeg x1) (vp_nar .boolean 1))) (fun n13 =>
  zq_rd (n13 3) 4 x1 (fun v14 =>
  if v14 = 0 then (
  some (0, n13)) else (
  some (1, n13)))))) else (
  zq_in 4 x1 (zq_lt (va_up n 3 (upd (n 3) (Int32.toNatClampNeg x1) (vp_nar .boolean 0))) (fun n8 =>
  zq_rd (n8 3) 4 x1 (fun v9 =>
  if v9 = 0 then (
  some (0, n8)) else (
  some (1, n8)))))))))
set_option maxHeartbeats 4000000 in
set_option maxRecDepth 100000 in
theorem c_X3_die {l : Launch} {D : va_G} {ad : Nat → Nat} {cy : Nat → ClassId} {o : zS} {s : zS4} {n : zS} {t : zS} {r : zS} {w : zJ} {x1 : Int32} {r0 : Int32} {n' : zS} (hf : f_X3_die n x1 = some (r0, n')) : zMI l yX3_die (zW yX3_die cX3_die 2 (some .int)) { frames := 1, cells := 0, slots := 0, locals := 21 } D cy [.ref (ad 0), .int x1] (wdX ad cy o s n t r w) r0 (wdX ad cy o s n' t r w) := by
  unfold f_X3_die at hf
  refine zEI (ty := .int) (by decide) (Nat.le_of_ble_eq_true rfl) ?_
  intro p e s9 m9 below meth c A Q C0 hret ls hl hP hD
  have hl : lv_has ls 2 [(0, .ref (ad 0)), (1, .int x1)] := hl
  have hS : va_S A s9.heap s9.heap [] := va_S.rf
  obtain ⟨hx, hb, hml, hown, hts⟩ := id C0.1
  refine lv_aload_n hx hb dX3_die_0 rfl (lv_at hl 0 rfl) ?_
  refine gf_X3_20 C0 hP 0 wdX_0 rfl dX3_die_1 ?_
  refine lv_iload_n hx hb dX3_die_4 rfl (lv_at hl 1 rfl) ?_
  obtain ⟨r2, hc1, hf⟩ := zq_b1_s hf
  refine zVI (ws' := (wdX ad cy o s n t r w)) (rest := []) C0 (fun _ h => h) fX_n (c_X2_hasModule (ad := fun j => ad (10 + j)) hc1) hP hD hS my_X2_hasModule kl_X3_75 ⟨rfl, rfl⟩ ⟨Nat.le_of_ble_eq_true rfl, Nat.le_of_ble_eq_true rfl⟩ (q0 := 10) (ci := 2) rfl wdX_10 rfl hl.1 rfl (Nat.le_of_ble_eq_true rfl) dX3_die_5 ⟨Nat.zero_le _, Nat.zero_le _⟩ (fun H locs hP hD hS => ?_)
  refine lv_if_ne (tgt := 13) hx hb dX3_die_8 (by decide) (fun c3 => ?_) (fun c3 => ?_)
  · have hf := it_f c3 hf
    refine lv_aload_n hx hb dX3_die_13 rfl (lv_at hl 0 rfl) ?_
    refine gf_X3_20 C0 hP 0 wdX_0 rfl dX3_die_14 ?_
    refine gf_X3_88 C0 hP 10 wdX_10 rfl dX3_die_17 ?_
    refine lv_iload_n hx hb dX3_die_20 rfl (lv_at hl 1 rfl) ?_
    refine lv_aload_n hx hb dX3_die_21 rfl (lv_at hl 0 rfl) ?_
    refine gf_X3_20 C0 hP 0 wdX_0 rfl dX3_die_22 ?_
    refine gf_X3_88 C0 hP 10 wdX_10 rfl dX3_die_25 ?_
    refine lv_iload_n hx hb dX3_die_28 rfl (lv_at hl 1 rfl) ?_
    obtain ⟨v4, ev4, h5, hf⟩ := zq_rd_s hf
    refine zza C0 hP 14 wdX_14 ev4 h5 dX3_die_29 ?_
    refine lv_if_ne (tgt := 37) hx hb dX3_die_30 (by decide) (fun c6 => ?_) (fun c6 => ?_)
    · have hf := it_f c6 hf
      refine lv_iconst (v := 0) hx hb dX3_die_37 (by decide) ?_
      obtain ⟨h7, hf⟩ := zq_in_s hf
      obtain ⟨n8, en8, hf⟩ := zq_lt_s hf
      refine zzs (ws' := (wdX ad cy o s n8 t r w)) C0 hP hD hS 14 wdX_14 h7 (by rw [en8]; rfl) dX3_die_38 (fun H locs hP hD hS => ?_)
      refine lv_aload_n hx hb dX3_die_39 rfl (lv_at hl 0 rfl) ?_
      refine gf_X3_20 C0 hP 0 wdX_0 rfl dX3_die_40 ?_
      refine gf_X3_88 C0 hP 10 wdX_10 rfl dX3_die_43 ?_
      refine lv_iload_n hx hb dX3_die_46 rfl (lv_at hl 1 rfl) ?_
      obtain ⟨v9, ev9, h10, hf⟩ := zq_rd_s hf
      refine zza C0 hP 14 wdX_14 ev9 h10 dX3_die_47 ?_
      refine lv_if_eq (tgt := 55) hx hb dX3_die_48 (by decide) (fun c11 => ?_) (fun c11 => ?_)
      · have hf := it_t c11 hf
        refine lv_iconst (v := 0) hx hb dX3_die_55 (by decide) ?_
        obtain ⟨rfl, rfl⟩ := zq_j2 hf
        exact hret _ _ _ _ rfl dX3_die_56 hP hD hS
      · have hf := it_f c11 hf
        refine lv_iconst (v := 1) hx hb dX3_die_51 (by decide) ?_
        refine lv_goto (tgt := 56) hx hb dX3_die_52 (by decide) ?_
        obtain ⟨rfl, rfl⟩ := zq_j2 hf
        exact hret _ _ _ _ rfl dX3_die_56 hP hD hS
    · have hf := it_t c6 hf
      refine lv_iconst (v := 1) hx hb dX3_die_33 (by decide) ?_
      refine lv_goto (tgt := 38) hx hb dX3_die_34 (by decide) ?_
      obtain ⟨h12, hf⟩ := zq_in_s hf
      obtain ⟨n13, en13, hf⟩ := zq_lt_s hf
      refine zzs (ws' := (wdX ad cy o s n13 t r w)) C0 hP hD hS 14 wdX_14 h12 (by rw [en13]; rfl) dX3_die_38 (fun H locs hP hD hS => ?_)
      refine lv_aload_n hx hb dX3_die_39 rfl (lv_at hl 0 rfl) ?_
      refine gf_X3_20 C0 hP 0 wdX_0 rfl dX3_die_40 ?_
      refine gf_X3_88 C0 hP 10 wdX_10 rfl dX3_die_43 ?_
      refine lv_iload_n hx hb dX3_die_46 rfl (lv_at hl 1 rfl) ?_
      obtain ⟨v14, ev14, h15, hf⟩ := zq_rd_s hf
      refine zza C0 hP 14 wdX_14 ev14 h15 dX3_die_47 ?_
      refine lv_if_eq (tgt := 55) hx hb dX3_die_48 (by decide) (fun c16 => ?_) (fun c16 => ?_)
      · have hf := it_t c16 hf
        refine lv_iconst (v := 0) hx hb dX3_die_55 (by decide) ?_
        obtain ⟨rfl, rfl⟩ := zq_j2 hf
        exact hret _ _ _ _ rfl dX3_die_56 hP hD hS
      · have hf := it_f c16 hf
        refine lv_iconst (v := 1) hx hb dX3_die_51 (by decide) ?_
        refine lv_goto (tgt := 56) hx hb dX3_die_52 (by decide) ?_
        obtain ⟨rfl, rfl⟩ := zq_j2 hf
        exact hret _ _ _ _ rfl dX3_die_56 hP hD hS
  · have hf := it_t c3 hf
    refine lv_iconst (v := (-1)) hx hb dX3_die_11 (by decide) ?_
    obtain ⟨rfl, rfl⟩ := zq_j2 hf
    exact hret _ _ _ _ rfl dX3_die_12 hP hD hS

def f_X3_cut (n : zS) (x1 : Int32) : Option (Int32 × zS) :=
  zq_b1 (f_X3_isCut x1) (fun r2 =>
  if r2 = 0 then (
  some ((-2), n)) else (
  zq_b1 (f_X2_stands n) (fun r5 =>
  if r5 = 0 then (
  some ((-3), n)) else (
  zq_b1 (f_X2_layFrame n x1) (fun n8 =>
  some ((n 10 0), n8))))))
set_option maxHeartbeats 4000000 in
set_option maxRecDepth 100000 in
theorem c_X3_cut {l : Launch} {D : va_G} {ad : Nat → Nat} {cy : Nat → ClassId} {o : zS} {s : zS4} {n : zS} {t : zS} {r : zS} {w : zJ} {x1 : Int32} {r0 : Int32} {n' : zS} (hf : f_X3_cut n x1 = some (r0, n')) : zMI l yX3_cut (zW yX3_cut cX3_cut 3 (some .int)) { frames := 2, cells := 0, slots := 0, locals := 48 } D cy [.ref (ad 0), .int x1] (wdX ad cy o s n t r w) r0 (wdX ad cy o s n' t r w) := by
  unfold f_X3_cut at hf
  refine zEI (ty := .int) (by decide) (Nat.le_of_ble_eq_true rfl) ?_
  intro p e s9 m9 below meth c A Q C0 hret ls hl hP hD
  have hl : lv_has ls 3 [(0, .ref (ad 0)), (1, .int x1)] := hl
  have hS : va_S A s9.heap s9.heap [] := va_S.rf
  obtain ⟨hx, hb, hml, hown, hts⟩ := id C0.1
  refine lv_iload_n hx hb dX3_cut_0 rfl (lv_at hl 1 rfl) ?_
  obtain ⟨r2, hc1, hf⟩ := zq_b1_s hf
  refine zSI (ws' := (wdX ad cy o s n t r w)) (rest := []) C0 (fun _ h => h) zF.nil (c_X3_isCut hc1) hP hD hS my_X3_isCut kl_X3_122 ⟨rfl, rfl⟩ ⟨Nat.le_of_ble_eq_true rfl, Nat.le_of_ble_eq_true rfl⟩ rfl hl.1 rfl (Nat.le_of_ble_eq_true rfl) dX3_cut_1 ⟨Nat.zero_le _, Nat.zero_le _⟩ (fun H locs hP hD hS => ?_)
  refine lv_if_ne (tgt := 10) hx hb dX3_cut_4 (by decide) (fun c3 => ?_) (fun c3 => ?_)
  · have hf := it_f c3 hf
    refine lv_aload_n hx hb dX3_cut_10 rfl (lv_at hl 0 rfl) ?_
    refine gf_X3_20 C0 hP 0 wdX_0 rfl dX3_cut_11 ?_
    obtain ⟨r5, hc4, hf⟩ := zq_b1_s hf
    refine zVI (ws' := (wdX ad cy o s n t r w)) (rest := []) C0 (fun _ h => h) fX_n (c_X2_stands (ad := fun j => ad (10 + j)) hc4) hP hD hS my_X2_stands kl_X3_125 ⟨rfl, rfl⟩ ⟨Nat.le_of_ble_eq_true rfl, Nat.le_of_ble_eq_true rfl⟩ (q0 := 10) (ci := 2) rfl wdX_10 rfl hl.1 rfl (Nat.le_of_ble_eq_true rfl) dX3_cut_14 ⟨Nat.zero_le _, Nat.zero_le _⟩ (fun H locs hP hD hS => ?_)
    refine lv_if_ne (tgt := 23) hx hb dX3_cut_17 (by decide) (fun c6 => ?_) (fun c6 => ?_)
    · have hf := it_f c6 hf
      refine lv_aload_n hx hb dX3_cut_23 rfl (lv_at hl 0 rfl) ?_
      refine gf_X3_20 C0 hP 0 wdX_0 rfl dX3_cut_24 ?_
      refine gf_X3_129 C0 hP 10 wdX_10 rfl dX3_cut_27 ?_
      refine lv_istore_n (lv' := [(2, .int (n 10 0)), (0, .ref (ad 0)), (1, .int x1)]) hx hb dX3_cut_30 rfl hl (by decide) rfl (fun ls hl => ?_)
      refine lv_aload_n hx hb dX3_cut_31 rfl (lv_at hl 1 rfl) ?_
      refine gf_X3_20 C0 hP 0 wdX_0 rfl dX3_cut_32 ?_
      refine lv_iload_n hx hb dX3_cut_35 rfl (lv_at hl 2 rfl) ?_
      obtain ⟨n8, hc7, hf⟩ := zq_b1_s hf
      refine zVV (ws' := (wdX ad cy o s n8 t r w)) (rest := []) C0 (fun _ h => h) fX_n (c_X2_layFrame (ad := fun j => ad (10 + j)) hc7) hP hD hS my_X2_layFrame kl_X3_132 ⟨rfl, rfl⟩ ⟨Nat.le_of_ble_eq_true rfl, Nat.le_of_ble_eq_true rfl⟩ (q0 := 10) (ci := 2) rfl wdX_10 rfl hl.1 rfl (Nat.le_of_ble_eq_true rfl) dX3_cut_36 ⟨Nat.zero_le _, Nat.zero_le _⟩ (fun H locs hP hD hS => ?_)
      refine lv_iload_n hx hb dX3_cut_39 rfl (lv_at hl 0 rfl) ?_
      obtain ⟨rfl, rfl⟩ := zq_j2 hf
      exact hret _ _ _ _ rfl dX3_cut_40 hP hD hS
    · have hf := it_t c6 hf
      refine lv_bipush (v := (-3)) hx hb dX3_cut_20 (by decide) ?_
      obtain ⟨rfl, rfl⟩ := zq_j2 hf
      exact hret _ _ _ _ rfl dX3_cut_22 hP hD hS
  · have hf := it_t c3 hf
    refine lv_bipush (v := (-2)) hx hb dX3_cut_7 (by decide) ?_
    obtain ⟨rfl, rfl⟩ := zq_j2 hf
    exact hret _ _ _ _ rfl dX3_cut_9 hP hD hS

def f_X3_isUnit  (x0 : Int32) : Option (Int32) :=
  if x0 < 0 then (
  some 0) else (
  if 15 ≤ x0 then (
  some 0) else (
  some 1))
set_option maxHeartbeats 4000000 in
set_option maxRecDepth 100000 in
theorem c_X3_isUnit {l : Launch} {D : va_G} {cy : Nat → ClassId}   {x0 : Int32} {r0 : Int32} (hf : f_X3_isUnit x0 = some r0) : zMI l yX3_isUnit (zW yX3_isUnit cX3_isUnit 1 (some .boolean)) { frames := 0, cells := 0, slots := 0, locals := 0 } D cy [.int x0] [] r0 [] := by
  unfold f_X3_isUnit at hf
  refine zEI (ty := .boolean) (by decide) (Nat.le_of_ble_eq_true rfl) ?_
  intro p e s9 m9 below meth c A Q C0 hret ls hl hP hD
  have hl : lv_has ls 1 [(0, .int x0)] := hl
  have hS : va_S A s9.heap s9.heap [] := va_S.rf
  obtain ⟨hx, hb, hml, hown, hts⟩ := id C0.1
  refine lv_iload_n hx hb dX3_isUnit_0 rfl (lv_at hl 0 rfl) ?_
  refine lv_if_lt (tgt := 14) hx hb dX3_isUnit_1 (by decide) (fun c1 => ?_) (fun c1 => ?_)
  · have hf := it_t c1 hf
    refine lv_iconst (v := 0) hx hb dX3_isUnit_14 (by decide) ?_
    obtain rfl := Option.some.inj hf
    exact hret _ _ _ _ rfl dX3_isUnit_15 hP hD hS
  · have hf := it_f c1 hf
    refine lv_iload_n hx hb dX3_isUnit_4 rfl (lv_at hl 0 rfl) ?_
    refine lv_bipush (v := 15) hx hb dX3_isUnit_5 (by decide) ?_
    refine lv_icmp_ge (tgt := 14) hx hb dX3_isUnit_7 (by decide) (fun c2 => ?_) (fun c2 => ?_)
    · have hf := it_t c2 hf
      refine lv_iconst (v := 0) hx hb dX3_isUnit_14 (by decide) ?_
      obtain rfl := Option.some.inj hf
      exact hret _ _ _ _ rfl dX3_isUnit_15 hP hD hS
    · have hf := it_f c2 hf
      refine lv_iconst (v := 1) hx hb dX3_isUnit_10 (by decide) ?_
      refine lv_goto (tgt := 15) hx hb dX3_isUnit_11 (by decide) ?_
      obtain rfl := Option.some.inj hf
      exact hret _ _ _ _ rfl dX3_isUnit_15 hP hD hS

def f_X3_ofUnit (n : zS) (x1 : Int32) (x2 : Int32) : Option (Int32) :=
  zq_b1 (f_X3_isUnit x1) (fun r2 =>
  if r2 = 0 then (
  some (-2)) else (
  if x2 < 0 then (
  some (-2)) else (
  if x2 ≤ 4 then (
  zq_b1 (f_X2_stands n) (fun r7 =>
  if r7 = 0 then (
  some (-3)) else (
  if x2 = 0 then (
  zq_rd (n 6) 15 x1 (fun v10 =>
  some v10)) else (
  if x2 = 1 then (
  zq_b1 (f_X2_currentOf n x1) (fun r14 =>
  some r14)) else (
  if x2 = 2 then (
  zq_b1 (f_X2_litLamps n x1) (fun r17 =>
  some r17)) else (
  if x2 = 3 then (
  zq_rd (n 7) 15 x1 (fun v19 =>
  some v19)) else (
  zq_b1 (f_X2_ghostsIn n x1) (fun r22 =>
  some r22)))))))) else (
  some (-2)))))
set_option maxHeartbeats 4000000 in
set_option maxRecDepth 100000 in
theorem c_X3_ofUnit {l : Launch} {D : va_G} {ad : Nat → Nat} {cy : Nat → ClassId} {o : zS} {s : zS4} {n : zS} {t : zS} {r : zS} {w : zJ} {x1 : Int32} {x2 : Int32} {r0 : Int32} (hf : f_X3_ofUnit n x1 x2 = some r0) : zMI l yX3_ofUnit (zW yX3_ofUnit cX3_ofUnit 3 (some .int)) { frames := 5, cells := 0, slots := 0, locals := 113 } D cy [.ref (ad 0), .int x1, .int x2] (wdX ad cy o s n t r w) r0 (wdX ad cy o s n t r w) := by
  unfold f_X3_ofUnit at hf
  refine zEI (ty := .int) (by decide) (Nat.le_of_ble_eq_true rfl) ?_
  intro p e s9 m9 below meth c A Q C0 hret ls hl hP hD
  have hl : lv_has ls 3 [(0, .ref (ad 0)), (1, .int x1), (2, .int x2)] := hl
  have hS : va_S A s9.heap s9.heap [] := va_S.rf
  obtain ⟨hx, hb, hml, hown, hts⟩ := id C0.1
  refine lv_iload_n hx hb dX3_ofUnit_0 rfl (lv_at hl 1 rfl) ?_
  obtain ⟨r2, hc1, hf⟩ := zq_b1_s hf
  refine zSI (ws' := (wdX ad cy o s n t r w)) (rest := []) C0 (fun _ h => h) zF.nil (c_X3_isUnit hc1) hP hD hS my_X3_isUnit kl_X3_136 ⟨rfl, rfl⟩ ⟨Nat.le_of_ble_eq_true rfl, Nat.le_of_ble_eq_true rfl⟩ rfl hl.1 rfl (Nat.le_of_ble_eq_true rfl) dX3_ofUnit_1 ⟨Nat.zero_le _, Nat.zero_le _⟩ (fun H locs hP hD hS => ?_)
  refine lv_if_eq (tgt := 16) hx hb dX3_ofUnit_4 (by decide) (fun c3 => ?_) (fun c3 => ?_)
  · have hf := it_t c3 hf
    refine lv_bipush (v := (-2)) hx hb dX3_ofUnit_16 (by decide) ?_
    obtain rfl := Option.some.inj hf
    exact hret _ _ _ _ rfl dX3_ofUnit_18 hP hD hS
  · have hf := it_f c3 hf
    refine lv_iload_n hx hb dX3_ofUnit_7 rfl (lv_at hl 2 rfl) ?_
    refine lv_if_lt (tgt := 16) hx hb dX3_ofUnit_8 (by decide) (fun c4 => ?_) (fun c4 => ?_)
    · have hf := it_t c4 hf
      refine lv_bipush (v := (-2)) hx hb dX3_ofUnit_16 (by decide) ?_
      obtain rfl := Option.some.inj hf
      exact hret _ _ _ _ rfl dX3_ofUnit_18 hP hD hS
    · have hf := it_f c4 hf
      refine lv_iload_n hx hb dX3_ofUnit_11 rfl (lv_at hl 2 rfl) ?_
      refine lv_iconst (v := 4) hx hb dX3_ofUnit_12 (by decide) ?_
      refine lv_icmp_le (tgt := 19) hx hb dX3_ofUnit_13 (by decide) (fun c5 => ?_) (fun c5 => ?_)
      · have hf := it_t c5 hf
        refine lv_aload_n hx hb dX3_ofUnit_19 rfl (lv_at hl 0 rfl) ?_
        refine gf_X3_20 C0 hP 0 wdX_0 rfl dX3_ofUnit_20 ?_
        obtain ⟨r7, hc6, hf⟩ := zq_b1_s hf
        refine zVI (ws' := (wdX ad cy o s n t r w)) (rest := []) C0 (fun _ h => h) fX_n (c_X2_stands (ad := fun j => ad (10 + j)) hc6) hP hD hS my_X2_stands kl_X3_125 ⟨rfl, rfl⟩ ⟨Nat.le_of_ble_eq_true rfl, Nat.le_of_ble_eq_true rfl⟩ (q0 := 10) (ci := 2) rfl wdX_10 rfl hl.1 rfl (Nat.le_of_ble_eq_true rfl) dX3_ofUnit_23 ⟨Nat.zero_le _, Nat.zero_le _⟩ (fun H locs hP hD hS => ?_)
        refine lv_if_ne (tgt := 32) hx hb dX3_ofUnit_26 (by decide) (fun c8 => ?_) (fun c8 => ?_)
        · have hf := it_f c8 hf
          refine lv_iload_n hx hb dX3_ofUnit_32 rfl (lv_at hl 2 rfl) ?_
          by_cases c9 : x2 = 0
          · have hf := it_t c9 hf
            refine lv_tableIn (off := 31) (tgt := 64) hx hb dX3_ofUnit_33 (by rw [c9]; decide) (by rw [c9]; decide) (by rw [c9]; rfl) (by decide) ?_
            refine lv_aload_n hx hb dX3_ofUnit_64 rfl (lv_at hl 0 rfl) ?_
            refine gf_X3_20 C0 hP 0 wdX_0 rfl dX3_ofUnit_65 ?_
            refine gf_X3_139 C0 hP 10 wdX_10 rfl dX3_ofUnit_68 ?_
            refine lv_iload_n hx hb dX3_ofUnit_71 rfl (lv_at hl 1 rfl) ?_
            obtain ⟨v10, ev10, h11, hf⟩ := zq_rd_s hf
            refine zia C0 hP 17 wdX_17 ev10 h11 dX3_ofUnit_72 ?_
            obtain rfl := Option.some.inj hf
            exact hret _ _ _ _ rfl dX3_ofUnit_73 hP hD hS
          have hf := it_f c9 hf
          by_cases c12 : x2 = 1
          · have hf := it_t c12 hf
            refine lv_tableIn (off := 41) (tgt := 74) hx hb dX3_ofUnit_33 (by rw [c12]; decide) (by rw [c12]; decide) (by rw [c12]; rfl) (by decide) ?_
            refine lv_aload_n hx hb dX3_ofUnit_74 rfl (lv_at hl 0 rfl) ?_
            refine gf_X3_20 C0 hP 0 wdX_0 rfl dX3_ofUnit_75 ?_
            refine lv_iload_n hx hb dX3_ofUnit_78 rfl (lv_at hl 1 rfl) ?_
            obtain ⟨r14, hc13, hf⟩ := zq_b1_s hf
            refine zVI (ws' := (wdX ad cy o s n t r w)) (rest := []) C0 (fun _ h => h) fX_n (c_X2_currentOf (ad := fun j => ad (10 + j)) hc13) hP hD hS my_X2_currentOf kl_X3_142 ⟨rfl, rfl⟩ ⟨Nat.le_of_ble_eq_true rfl, Nat.le_of_ble_eq_true rfl⟩ (q0 := 10) (ci := 2) rfl wdX_10 rfl hl.1 rfl (Nat.le_of_ble_eq_true rfl) dX3_ofUnit_79 ⟨Nat.zero_le _, Nat.zero_le _⟩ (fun H locs hP hD hS => ?_)
            obtain rfl := Option.some.inj hf
            exact hret _ _ _ _ rfl dX3_ofUnit_82 hP hD hS
          have hf := it_f c12 hf
          by_cases c15 : x2 = 2
          · have hf := it_t c15 hf
            refine lv_tableIn (off := 50) (tgt := 83) hx hb dX3_ofUnit_33 (by rw [c15]; decide) (by rw [c15]; decide) (by rw [c15]; rfl) (by decide) ?_
            refine lv_aload_n hx hb dX3_ofUnit_83 rfl (lv_at hl 0 rfl) ?_
            refine gf_X3_20 C0 hP 0 wdX_0 rfl dX3_ofUnit_84 ?_
            refine lv_iload_n hx hb dX3_ofUnit_87 rfl (lv_at hl 1 rfl) ?_
            obtain ⟨r17, hc16, hf⟩ := zq_b1_s hf
            refine zVI (ws' := (wdX ad cy o s n t r w)) (rest := []) C0 (fun _ h => h) fX_n (c_X2_litLamps (ad := fun j => ad (10 + j)) hc16) hP hD hS my_X2_litLamps kl_X3_145 ⟨rfl, rfl⟩ ⟨Nat.le_of_ble_eq_true rfl, Nat.le_of_ble_eq_true rfl⟩ (q0 := 10) (ci := 2) rfl wdX_10 rfl hl.1 rfl (Nat.le_of_ble_eq_true rfl) dX3_ofUnit_88 ⟨Nat.zero_le _, Nat.zero_le _⟩ (fun H locs hP hD hS => ?_)
            obtain rfl := Option.some.inj hf
            exact hret _ _ _ _ rfl dX3_ofUnit_91 hP hD hS
          have hf := it_f c15 hf
          by_cases c18 : x2 = 3
          · have hf := it_t c18 hf
            refine lv_tableIn (off := 59) (tgt := 92) hx hb dX3_ofUnit_33 (by rw [c18]; decide) (by rw [c18]; decide) (by rw [c18]; rfl) (by decide) ?_
            refine lv_aload_n hx hb dX3_ofUnit_92 rfl (lv_at hl 0 rfl) ?_
            refine gf_X3_20 C0 hP 0 wdX_0 rfl dX3_ofUnit_93 ?_
            refine gf_X3_148 C0 hP 10 wdX_10 rfl dX3_ofUnit_96 ?_
            refine lv_iload_n hx hb dX3_ofUnit_99 rfl (lv_at hl 1 rfl) ?_
            obtain ⟨v19, ev19, h20, hf⟩ := zq_rd_s hf
            refine zia C0 hP 18 wdX_18 ev19 h20 dX3_ofUnit_100 ?_
            obtain rfl := Option.some.inj hf
            exact hret _ _ _ _ rfl dX3_ofUnit_101 hP hD hS
          have hf := it_f c18 hf
          refine lv_tableOut (tgt := 102) hx hb dX3_ofUnit_33 (by have := lv_neT c9 (show (0 : Int32).toInt = 0 by decide); have := lv_neT c12 (show (1 : Int32).toInt = 1 by decide); have := lv_neT c15 (show (2 : Int32).toInt = 2 by decide); have := lv_neT c18 (show (3 : Int32).toInt = 3 by decide); omega) (by decide) ?_
          refine lv_aload_n hx hb dX3_ofUnit_102 rfl (lv_at hl 0 rfl) ?_
          refine gf_X3_20 C0 hP 0 wdX_0 rfl dX3_ofUnit_103 ?_
          refine lv_iload_n hx hb dX3_ofUnit_106 rfl (lv_at hl 1 rfl) ?_
          obtain ⟨r22, hc21, hf⟩ := zq_b1_s hf
          refine zVI (ws' := (wdX ad cy o s n t r w)) (rest := []) C0 (fun _ h => h) fX_n (c_X2_ghostsIn (ad := fun j => ad (10 + j)) hc21) hP hD hS my_X2_ghostsIn kl_X3_151 ⟨rfl, rfl⟩ ⟨Nat.le_of_ble_eq_true rfl, Nat.le_of_ble_eq_true rfl⟩ (q0 := 10) (ci := 2) rfl wdX_10 rfl hl.1 rfl (Nat.le_of_ble_eq_true rfl) dX3_ofUnit_107 ⟨Nat.zero_le _, Nat.zero_le _⟩ (fun H locs hP hD hS => ?_)
          obtain rfl := Option.some.inj hf
          exact hret _ _ _ _ rfl dX3_ofUnit_110 hP hD hS
        · have hf := it_t c8 hf
          refine lv_bipush (v := (-3)) hx hb dX3_ofUnit_29 (by decide) ?_
          obtain rfl := Option.some.inj hf
          exact hret _ _ _ _ rfl dX3_ofUnit_31 hP hD hS
      · have hf := it_f c5 hf
        refine lv_bipush (v := (-2)) hx hb dX3_ofUnit_16 (by decide) ?_
        obtain rfl := Option.some.inj hf
        exact hret _ _ _ _ rfl dX3_ofUnit_18 hP hD hS

def f_X3_slices_L43 (n : zS) : Nat → Int32 → Int32 → Option (Int32)
  | 0, _, _ => none
  | q9 + 1, x2, x3 =>
  if 4 ≤ x3 then (
  some x2) else (
  zq_b1 (f_X2_slicesOf n x3) (fun r9 =>
  f_X3_slices_L43 n q9 (x2 + r9) (x3 + 1)))
def f_X3_slices (n : zS) (x1 : Int32) : Option (Int32) :=
  if x1 < (-1) then (
  some (-2)) else (
  if x1 < 4 then (
  zq_b1 (f_X2_stands n) (fun r4 =>
  if r4 = 0 then (
  some (-3)) else (
  if x1 < 0 then (
  zq_b1 (f_X3_slices_L43 n 100 0 0) (fun y11 =>
  some y11)) else (
  zq_b1 (f_X2_slicesOf n x1) (fun r13 =>
  some r13))))) else (
  some (-2)))
set_option maxHeartbeats 4000000 in
set_option maxRecDepth 100000 in
theorem w_X3_slices_L43 {l : Launch} {p : Program} {e : Env} {s9 : State} {m9 : MethodId} {ag : Array Value} {below : List Frame} {meth : Method} {c : Code} {A : Nat → Prop} {Q : State → Prop} {D : va_G} {ad : Nat → Nat} {cy : Nat → ClassId} {o : zS} {s : zS4} {n : zS} {t : zS} {r : zS} {w : zJ} (C0 : zCx p s9 m9 ag c cX3_slices 4 RX3 D cy A)  {o2 : Int32} (e0 : ∀ (H : Heap) (locs : List Loc) (ls : Array Slot), va_P D vwCl (wdX ad cy o s n t r w) H → va_D A (wdX ad cy o s n t r w) → va_S A s9.heap H locs → lv_has ls 4 [(2, .int o2)] → W p l e { frames := 2, cells := 0, slots := 0, locals := 44 } s9 m9 ag below meth c H locs 0 0 Q (F0 m9 65 ls [])) : ∀ (q9 : Nat) (x2 : Int32) (x3 : Int32), f_X3_slices_L43 n q9 x2 x3 = some o2 → ∀ (H : Heap) (locs : List Loc) (ls : Array Slot), va_P D vwCl (wdX ad cy o s n t r w) H → va_D A (wdX ad cy o s n t r w) → va_S A s9.heap H locs → lv_has ls 4 [(0, .ref (ad 0)), (2, .int x2), (3, .int x3)] → W p l e { frames := 2, cells := 0, slots := 0, locals := 44 } s9 m9 ag below meth c H locs 0 0 Q (F0 m9 43 ls []) := by
  obtain ⟨hx, hb, hml, hown, hts⟩ := id C0.1
  intro q9
  induction q9 with
  | zero =>
    intro x2 x3 hf
    rw [f_X3_slices_L43] at hf
    cases hf
  | succ q9 ih =>
    intro x2 x3 hf H locs ls hP hD hS hl
    rw [f_X3_slices_L43] at hf
    refine lv_iload_n hx hb dX3_slices_43 rfl (lv_at hl 2 rfl) ?_
    refine lv_iconst (v := 4) hx hb dX3_slices_44 (by decide) ?_
    refine lv_icmp_ge (tgt := 65) hx hb dX3_slices_45 (by decide) (fun c7 => ?_) (fun c7 => ?_)
    · have hf := it_t c7 hf
      obtain rfl := Option.some.inj hf
      exact e0 _ _ _ hP hD hS (lv_sub hl [1] rfl)
    · have hf := it_f c7 hf
      refine lv_iload_n hx hb dX3_slices_48 rfl (lv_at hl 1 rfl) ?_
      refine lv_aload_n hx hb dX3_slices_49 rfl (lv_at hl 0 rfl) ?_
      refine gf_X3_20 C0 hP 0 wdX_0 rfl dX3_slices_50 ?_
      refine lv_iload_n hx hb dX3_slices_53 rfl (lv_at hl 2 rfl) ?_
      obtain ⟨r9, hc8, hf⟩ := zq_b1_s hf
      refine zVI (ws' := (wdX ad cy o s n t r w)) (rest := [.int x2]) C0 (fun _ h => h) fX_n (c_X2_slicesOf (ad := fun j => ad (10 + j)) hc8) hP hD hS my_X2_slicesOf kl_X3_154 ⟨rfl, rfl⟩ ⟨Nat.le_of_ble_eq_true rfl, Nat.le_of_ble_eq_true rfl⟩ (q0 := 10) (ci := 2) rfl wdX_10 rfl hl.1 rfl (Nat.le_of_ble_eq_true rfl) dX3_slices_54 ⟨Nat.zero_le _, Nat.zero_le _⟩ (fun H locs hP hD hS => ?_)
      refine lv_iadd hx hb dX3_slices_57 ?_
      refine lv_istore_n (lv' := [(2, .int (x2 + r9)), (0, .ref (ad 0)), (3, .int x3)]) hx hb dX3_slices_58 rfl hl (by decide) rfl (fun ls hl => ?_)
      refine lv_iinc (v := (x3 + 1)) (lv' := [(3, .int (x3 + 1)), (2, .int (x2 + r9)), (0, .ref (ad 0))]) hx hb dX3_slices_59 hl (k := 2) rfl rfl (by decide) rfl (fun ls hl => ?_)
      refine lv_goto (tgt := 43) hx hb dX3_slices_62 (by decide) ?_
      exact ih (x2 + r9) (x3 + 1) hf _ _ _ hP hD hS (lv_sub hl [2, 1, 0] rfl)
set_option maxHeartbeats 4000000 in
set_option maxRecDepth 100000 in
theorem c_X3_slices {l : Launch} {D : va_G} {ad : Nat → Nat} {cy : Nat → ClassId} {o : zS} {s : zS4} {n : zS} {t : zS} {r : zS} {w : zJ} {x1 : Int32} {r0 : Int32} (hf : f_X3_slices n x1 = some r0) : zMI l yX3_slices (zW yX3_slices cX3_slices 4 (some .int)) { frames := 2, cells := 0, slots := 0, locals := 44 } D cy [.ref (ad 0), .int x1] (wdX ad cy o s n t r w) r0 (wdX ad cy o s n t r w) := by
  unfold f_X3_slices at hf
  refine zEI (ty := .int) (by decide) (Nat.le_of_ble_eq_true rfl) ?_
  intro p e s9 m9 below meth c A Q C0 hret ls hl hP hD
  have hl : lv_has ls 4 [(0, .ref (ad 0)), (1, .int x1)] := hl
  have hS : va_S A s9.heap s9.heap [] := va_S.rf
  obtain ⟨hx, hb, hml, hown, hts⟩ := id C0.1
  refine lv_iload_n hx hb dX3_slices_0 rfl (lv_at hl 1 rfl) ?_
  refine lv_iconst (v := (-1)) hx hb dX3_slices_1 (by decide) ?_
  refine lv_icmp_lt (tgt := 10) hx hb dX3_slices_2 (by decide) (fun c1 => ?_) (fun c1 => ?_)
  · have hf := it_t c1 hf
    refine lv_bipush (v := (-2)) hx hb dX3_slices_10 (by decide) ?_
    obtain rfl := Option.some.inj hf
    exact hret _ _ _ _ rfl dX3_slices_12 hP hD hS
  · have hf := it_f c1 hf
    refine lv_iload_n hx hb dX3_slices_5 rfl (lv_at hl 1 rfl) ?_
    refine lv_iconst (v := 4) hx hb dX3_slices_6 (by decide) ?_
    refine lv_icmp_lt (tgt := 13) hx hb dX3_slices_7 (by decide) (fun c2 => ?_) (fun c2 => ?_)
    · have hf := it_t c2 hf
      refine lv_aload_n hx hb dX3_slices_13 rfl (lv_at hl 0 rfl) ?_
      refine gf_X3_20 C0 hP 0 wdX_0 rfl dX3_slices_14 ?_
      obtain ⟨r4, hc3, hf⟩ := zq_b1_s hf
      refine zVI (ws' := (wdX ad cy o s n t r w)) (rest := []) C0 (fun _ h => h) fX_n (c_X2_stands (ad := fun j => ad (10 + j)) hc3) hP hD hS my_X2_stands kl_X3_125 ⟨rfl, rfl⟩ ⟨Nat.le_of_ble_eq_true rfl, Nat.le_of_ble_eq_true rfl⟩ (q0 := 10) (ci := 2) rfl wdX_10 rfl hl.1 rfl (Nat.le_of_ble_eq_true rfl) dX3_slices_17 ⟨Nat.zero_le _, Nat.zero_le _⟩ (fun H locs hP hD hS => ?_)
      refine lv_if_ne (tgt := 26) hx hb dX3_slices_20 (by decide) (fun c5 => ?_) (fun c5 => ?_)
      · have hf := it_f c5 hf
        refine lv_iload_n hx hb dX3_slices_26 rfl (lv_at hl 1 rfl) ?_
        refine lv_if_lt (tgt := 39) hx hb dX3_slices_27 (by decide) (fun c6 => ?_) (fun c6 => ?_)
        · have hf := it_t c6 hf
          refine lv_iconst (v := 0) hx hb dX3_slices_39 (by decide) ?_
          refine lv_istore_n (lv' := [(2, .int 0), (0, .ref (ad 0)), (1, .int x1)]) hx hb dX3_slices_40 rfl hl (by decide) rfl (fun ls hl => ?_)
          refine lv_iconst (v := 0) hx hb dX3_slices_41 (by decide) ?_
          refine lv_istore_n (lv' := [(3, .int 0), (2, .int 0), (0, .ref (ad 0)), (1, .int x1)]) hx hb dX3_slices_42 rfl hl (by decide) rfl (fun ls hl => ?_)
          obtain ⟨y11, hL10, hf⟩ := zq_b1_s hf
          refine w_X3_slices_L43 C0 (fun H locs ls hP hD hS hl => ?_) 100 0 0 hL10 _ _ _ hP hD hS (lv_sub hl [2, 1, 0] rfl)
          refine lv_iload_n hx hb dX3_slices_65 rfl (lv_at hl 0 rfl) ?_
          obtain rfl := Option.some.inj hf
          exact hret _ _ _ _ rfl dX3_slices_66 hP hD hS
        · have hf := it_f c6 hf
          refine lv_aload_n hx hb dX3_slices_30 rfl (lv_at hl 0 rfl) ?_
          refine gf_X3_20 C0 hP 0 wdX_0 rfl dX3_slices_31 ?_
          refine lv_iload_n hx hb dX3_slices_34 rfl (lv_at hl 1 rfl) ?_
          obtain ⟨r13, hc12, hf⟩ := zq_b1_s hf
          refine zVI (ws' := (wdX ad cy o s n t r w)) (rest := []) C0 (fun _ h => h) fX_n (c_X2_slicesOf (ad := fun j => ad (10 + j)) hc12) hP hD hS my_X2_slicesOf kl_X3_154 ⟨rfl, rfl⟩ ⟨Nat.le_of_ble_eq_true rfl, Nat.le_of_ble_eq_true rfl⟩ (q0 := 10) (ci := 2) rfl wdX_10 rfl hl.1 rfl (Nat.le_of_ble_eq_true rfl) dX3_slices_35 ⟨Nat.zero_le _, Nat.zero_le _⟩ (fun H locs hP hD hS => ?_)
          obtain rfl := Option.some.inj hf
          exact hret _ _ _ _ rfl dX3_slices_38 hP hD hS
      · have hf := it_t c5 hf
        refine lv_bipush (v := (-3)) hx hb dX3_slices_23 (by decide) ?_
        obtain rfl := Option.some.inj hf
        exact hret _ _ _ _ rfl dX3_slices_25 hP hD hS
    · have hf := it_f c2 hf
      refine lv_bipush (v := (-2)) hx hb dX3_slices_10 (by decide) ?_
      obtain rfl := Option.some.inj hf
      exact hret _ _ _ _ rfl dX3_slices_12 hP hD hS

def f_X3_bears_L29 (n : zS) (x1 : Int32) : Nat → Int32 → Option ((Unit) ⊕ (Int32))
  | 0, _ => none
  | q9 + 1, x2 =>
  if x2 ≤ 0 then (
  some (Sum.inl ())) else (
  zq_b1 (f_X2_greatestCurrentDimmed n x2) (fun r8 =>
  if x1 < r8 then (
  f_X3_bears_L29 n x1 q9 (x2 + (-1))) else (
  some (Sum.inr x2))))
def f_X3_bears (n : zS) (x1 : Int32) : Option (Int32) :=
  if x1 < 0 then (
  some (-2)) else (
  if x1 ≤ 16 then (
  zq_b1 (f_X2_stands n) (fun r4 =>
  if r4 = 0 then (
  some (-3)) else (
  zq_s1_1 (f_X3_bears_L29 n x1 100 15) (fun _u =>
  some 0) (fun y11 =>
  some y11)))) else (
  some (-2)))
set_option maxHeartbeats 4000000 in
set_option maxRecDepth 100000 in
theorem w_X3_bears_L29 {l : Launch} {p : Program} {e : Env} {s9 : State} {m9 : MethodId} {ag : Array Value} {below : List Frame} {meth : Method} {c : Code} {A : Nat → Prop} {Q : State → Prop} {D : va_G} {ad : Nat → Nat} {cy : Nat → ClassId} {o : zS} {s : zS4} {n : zS} {t : zS} {r : zS} {w : zJ} {x1 : Int32} (C0 : zCx p s9 m9 ag c cX3_bears 3 RX3 D cy A)  {out : (Unit) ⊕ (Int32)} (e0 : ∀ (uu : Unit), out = Sum.inl uu → ∀ (H : Heap) (locs : List Loc) (ls : Array Slot), va_P D vwCl (wdX ad cy o s n t r w) H → va_D A (wdX ad cy o s n t r w) → va_S A s9.heap H locs → lv_has ls 3 [] → W p l e { frames := 3, cells := 0, slots := 0, locals := 70 } s9 m9 ag below meth c H locs 0 0 Q (F0 m9 53 ls [])) (e1 : ∀ (o2 : Int32), out = Sum.inr o2 → ∀ (H : Heap) (locs : List Loc) (ls : Array Slot), va_P D vwCl (wdX ad cy o s n t r w) H → va_D A (wdX ad cy o s n t r w) → va_S A s9.heap H locs → lv_has ls 3 [(2, .int o2)] → W p l e { frames := 3, cells := 0, slots := 0, locals := 70 } s9 m9 ag below meth c H locs 0 0 Q (F0 m9 45 ls [])) : ∀ (q9 : Nat) (x2 : Int32), f_X3_bears_L29 n x1 q9 x2 = some out → ∀ (H : Heap) (locs : List Loc) (ls : Array Slot), va_P D vwCl (wdX ad cy o s n t r w) H → va_D A (wdX ad cy o s n t r w) → va_S A s9.heap H locs → lv_has ls 3 [(0, .ref (ad 0)), (1, .int x1), (2, .int x2)] → W p l e { frames := 3, cells := 0, slots := 0, locals := 70 } s9 m9 ag below meth c H locs 0 0 Q (F0 m9 29 ls []) := by
  obtain ⟨hx, hb, hml, hown, hts⟩ := id C0.1
  intro q9
  induction q9 with
  | zero =>
    intro x2 hf
    rw [f_X3_bears_L29] at hf
    cases hf
  | succ q9 ih =>
    intro x2 hf H locs ls hP hD hS hl
    rw [f_X3_bears_L29] at hf
    refine lv_iload_n hx hb dX3_bears_29 rfl (lv_at hl 2 rfl) ?_
    refine lv_if_le (tgt := 53) hx hb dX3_bears_30 (by decide) (fun c6 => ?_) (fun c6 => ?_)
    · have hf := it_t c6 hf
      exact e0 () (Option.some.inj hf).symm _ _ _ hP hD hS (lv_sub hl [] rfl)
    · have hf := it_f c6 hf
      refine lv_aload_n hx hb dX3_bears_33 rfl (lv_at hl 0 rfl) ?_
      refine gf_X3_20 C0 hP 0 wdX_0 rfl dX3_bears_34 ?_
      refine lv_iload_n hx hb dX3_bears_37 rfl (lv_at hl 2 rfl) ?_
      obtain ⟨r8, hc7, hf⟩ := zq_b1_s hf
      refine zVI (ws' := (wdX ad cy o s n t r w)) (rest := []) C0 (fun _ h => h) fX_n (c_X2_greatestCurrentDimmed (ad := fun j => ad (10 + j)) hc7) hP hD hS my_X2_greatestCurrentDimmed kl_X3_157 ⟨rfl, rfl⟩ ⟨Nat.le_of_ble_eq_true rfl, Nat.le_of_ble_eq_true rfl⟩ (q0 := 10) (ci := 2) rfl wdX_10 rfl hl.1 rfl (Nat.le_of_ble_eq_true rfl) dX3_bears_38 ⟨Nat.zero_le _, Nat.zero_le _⟩ (fun H locs hP hD hS => ?_)
      refine lv_iload_n hx hb dX3_bears_41 rfl (lv_at hl 1 rfl) ?_
      refine lv_icmp_gt (tgt := 47) hx hb dX3_bears_42 (by decide) (fun c9 => ?_) (fun c9 => ?_)
      · have hf := it_t c9 hf
        refine lv_iinc (v := (x2 + (-1))) (lv' := [(2, .int (x2 + (-1))), (0, .ref (ad 0)), (1, .int x1)]) hx hb dX3_bears_47 hl (k := 2) rfl rfl (by decide) rfl (fun ls hl => ?_)
        refine lv_goto (tgt := 29) hx hb dX3_bears_50 (by decide) ?_
        exact ih (x2 + (-1)) hf _ _ _ hP hD hS (lv_sub hl [1, 2, 0] rfl)
      · have hf := it_f c9 hf
        exact e1 x2 (Option.some.inj hf).symm _ _ _ hP hD hS (lv_sub hl [2] rfl)
set_option maxHeartbeats 4000000 in
set_option maxRecDepth 100000 in
theorem c_X3_bears {l : Launch} {D : va_G} {ad : Nat → Nat} {cy : Nat → ClassId} {o : zS} {s : zS4} {n : zS} {t : zS} {r : zS} {w : zJ} {x1 : Int32} {r0 : Int32} (hf : f_X3_bears n x1 = some r0) : zMI l yX3_bears (zW yX3_bears cX3_bears 3 (some .int)) { frames := 3, cells := 0, slots := 0, locals := 70 } D cy [.ref (ad 0), .int x1] (wdX ad cy o s n t r w) r0 (wdX ad cy o s n t r w) := by
  unfold f_X3_bears at hf
  refine zEI (ty := .int) (by decide) (Nat.le_of_ble_eq_true rfl) ?_
  intro p e s9 m9 below meth c A Q C0 hret ls hl hP hD
  have hl : lv_has ls 3 [(0, .ref (ad 0)), (1, .int x1)] := hl
  have hS : va_S A s9.heap s9.heap [] := va_S.rf
  obtain ⟨hx, hb, hml, hown, hts⟩ := id C0.1
  refine lv_iload_n hx hb dX3_bears_0 rfl (lv_at hl 1 rfl) ?_
  refine lv_if_lt (tgt := 10) hx hb dX3_bears_1 (by decide) (fun c1 => ?_) (fun c1 => ?_)
  · have hf := it_t c1 hf
    refine lv_bipush (v := (-2)) hx hb dX3_bears_10 (by decide) ?_
    obtain rfl := Option.some.inj hf
    exact hret _ _ _ _ rfl dX3_bears_12 hP hD hS
  · have hf := it_f c1 hf
    refine lv_iload_n hx hb dX3_bears_4 rfl (lv_at hl 1 rfl) ?_
    refine lv_bipush (v := 16) hx hb dX3_bears_5 (by decide) ?_
    refine lv_icmp_le (tgt := 13) hx hb dX3_bears_7 (by decide) (fun c2 => ?_) (fun c2 => ?_)
    · have hf := it_t c2 hf
      refine lv_aload_n hx hb dX3_bears_13 rfl (lv_at hl 0 rfl) ?_
      refine gf_X3_20 C0 hP 0 wdX_0 rfl dX3_bears_14 ?_
      obtain ⟨r4, hc3, hf⟩ := zq_b1_s hf
      refine zVI (ws' := (wdX ad cy o s n t r w)) (rest := []) C0 (fun _ h => h) fX_n (c_X2_stands (ad := fun j => ad (10 + j)) hc3) hP hD hS my_X2_stands kl_X3_125 ⟨rfl, rfl⟩ ⟨Nat.le_of_ble_eq_true rfl, Nat.le_of_ble_eq_true rfl⟩ (q0 := 10) (ci := 2) rfl wdX_10 rfl hl.1 rfl (Nat.le_of_ble_eq_true rfl) dX3_bears_17 ⟨Nat.zero_le _, Nat.zero_le _⟩ (fun H locs hP hD hS => ?_)
      refine lv_if_ne (tgt := 26) hx hb dX3_bears_20 (by decide) (fun c5 => ?_) (fun c5 => ?_)
      · have hf := it_f c5 hf
        refine lv_bipush (v := 15) hx hb dX3_bears_26 (by decide) ?_
        refine lv_istore_n (lv' := [(2, .int 15), (0, .ref (ad 0)), (1, .int x1)]) hx hb dX3_bears_28 rfl hl (by decide) rfl (fun ls hl => ?_)
        rcases zq_s1_1_s hf with ⟨_u, hL10, hf⟩ | ⟨y11, hL10, hf⟩
        · refine w_X3_bears_L29 C0 (zq_el1 ?_) (zq_nr1) 100 15 hL10 _ _ _ hP hD hS (lv_sub hl [1, 2, 0] rfl)
          intro H locs ls hP hD hS hl
          refine lv_iconst (v := 0) hx hb dX3_bears_53 (by decide) ?_
          obtain rfl := Option.some.inj hf
          exact hret _ _ _ _ rfl dX3_bears_54 hP hD hS
        · refine w_X3_bears_L29 C0 (zq_nl1) (zq_er1 ?_) 100 15 hL10 _ _ _ hP hD hS (lv_sub hl [1, 2, 0] rfl)
          intro H locs ls hP hD hS hl
          refine lv_iload_n hx hb dX3_bears_45 rfl (lv_at hl 0 rfl) ?_
          obtain rfl := Option.some.inj hf
          exact hret _ _ _ _ rfl dX3_bears_46 hP hD hS
      · have hf := it_t c5 hf
        refine lv_bipush (v := (-3)) hx hb dX3_bears_23 (by decide) ?_
        obtain rfl := Option.some.inj hf
        exact hret _ _ _ _ rfl dX3_bears_25 hP hD hS
    · have hf := it_f c2 hf
      refine lv_bipush (v := (-2)) hx hb dX3_bears_10 (by decide) ?_
      obtain rfl := Option.some.inj hf
      exact hret _ _ _ _ rfl dX3_bears_12 hP hD hS

def f_X3_steadiest_L57  : Nat → Int32 → Int32 → Int32 → zS → Option (Int32 × Int32 × zS)
  | 0, _, _, _, _ => none
  | q9 + 1, x2, x3, x4, t =>
  if 8 < x4 then (
  some (x2, x3, t)) else (
  zq_b1 (f_X2_layFrame t x4) (fun t11 =>
  zq_b1 (f_X2_darkTogether t11) (fun r13 =>
  if x3 ≤ r13 then (
  f_X3_steadiest_L57 q9 x2 x3 (x4 + 1) t11) else (
  f_X3_steadiest_L57 q9 x4 r13 (x4 + 1) t11))))
def f_X3_steadiest (n : zS) (t : zS) (x1 : Int32) : Option (Int32 × zS) :=
  if x1 < 0 then (
  some ((-2), t)) else (
  if x1 ≤ 2 then (
  zq_b1 (f_X2_stands n) (fun r4 =>
  if r4 = 0 then (
  some ((-3), t)) else (
  if x1 = 2 then (
  zq_b1 (f_X2_darkTogether n) (fun r21 =>
  some (r21, t))) else (
  zq_b1 (f_X2_becomeLike t n) (fun t8 =>
  zq_b3 (f_X3_steadiest_L57 100 1 2147483647 1 t8) (fun y16 y17 t18 =>
  if x1 = 0 then (
  some (y16, t18)) else (
  some (y17, t18)))))))) else (
  some ((-2), t)))
set_option maxHeartbeats 4000000 in
set_option maxRecDepth 100000 in
theorem w_X3_steadiest_L57 {l : Launch} {p : Program} {e : Env} {s9 : State} {m9 : MethodId} {ag : Array Value} {below : List Frame} {meth : Method} {c : Code} {A : Nat → Prop} {Q : State → Prop} {D : va_G} {ad : Nat → Nat} {cy : Nat → ClassId} {o : zS} {s : zS4} {n : zS} {r : zS} {w : zJ} {x1 : Int32} (C0 : zCx p s9 m9 ag c cX3_steadiest 6 RX3 D cy A)  {o2 : Int32} {o3 : Int32} {to : zS} (e0 : ∀ (H : Heap) (locs : List Loc) (ls : Array Slot), va_P D vwCl (wdX ad cy o s n to r w) H → va_D A (wdX ad cy o s n to r w) → va_S A s9.heap H locs → lv_has ls 6 [(1, .int x1), (2, .int o2), (3, .int o3)] → W p l e { frames := 4, cells := 0, slots := 0, locals := 90 } s9 m9 ag below meth c H locs 0 0 Q (F0 m9 100 ls [])) : ∀ (q9 : Nat) (x2 : Int32) (x3 : Int32) (x4 : Int32) (t : zS), f_X3_steadiest_L57 q9 x2 x3 x4 t = some (o2, o3, to) → ∀ (H : Heap) (locs : List Loc) (ls : Array Slot), va_P D vwCl (wdX ad cy o s n t r w) H → va_D A (wdX ad cy o s n t r w) → va_S A s9.heap H locs → lv_has ls 6 [(0, .ref (ad 0)), (1, .int x1), (2, .int x2), (3, .int x3), (4, .int x4)] → W p l e { frames := 4, cells := 0, slots := 0, locals := 90 } s9 m9 ag below meth c H locs 0 0 Q (F0 m9 57 ls []) := by
  obtain ⟨hx, hb, hml, hown, hts⟩ := id C0.1
  intro q9
  induction q9 with
  | zero =>
    intro x2 x3 x4 t hf
    rw [f_X3_steadiest_L57] at hf
    cases hf
  | succ q9 ih =>
    intro x2 x3 x4 t hf H locs ls hP hD hS hl
    rw [f_X3_steadiest_L57] at hf
    refine lv_iload hx hb dX3_steadiest_57 (lv_at hl 4 rfl) ?_
    refine lv_bipush (v := 8) hx hb dX3_steadiest_59 (by decide) ?_
    refine lv_icmp_gt (tgt := 100) hx hb dX3_steadiest_61 (by decide) (fun c9 => ?_) (fun c9 => ?_)
    · have hf := it_t c9 hf
      obtain ⟨rfl, rfl, rfl⟩ := zq_j3 hf
      exact e0 _ _ _ hP hD hS (lv_sub hl [1, 2, 3] rfl)
    · have hf := it_f c9 hf
      refine lv_aload_n hx hb dX3_steadiest_64 rfl (lv_at hl 0 rfl) ?_
      refine gf_X3_24 C0 hP 0 wdX_0 rfl dX3_steadiest_65 ?_
      refine lv_iload hx hb dX3_steadiest_68 (lv_at hl 4 rfl) ?_
      obtain ⟨t11, hc10, hf⟩ := zq_b1_s hf
      refine zVV (ws' := (wdX ad cy o s n t11 r w)) (rest := []) C0 (fun _ h => h) fX_t (c_X2_layFrame (ad := fun j => ad (19 + j)) hc10) hP hD hS my_X2_layFrame kl_X3_132 ⟨rfl, rfl⟩ ⟨Nat.le_of_ble_eq_true rfl, Nat.le_of_ble_eq_true rfl⟩ (q0 := 19) (ci := 2) rfl wdX_19 rfl hl.1 rfl (Nat.le_of_ble_eq_true rfl) dX3_steadiest_70 ⟨Nat.zero_le _, Nat.zero_le _⟩ (fun H locs hP hD hS => ?_)
      refine lv_aload_n hx hb dX3_steadiest_73 rfl (lv_at hl 0 rfl) ?_
      refine gf_X3_24 C0 hP 0 wdX_0 rfl dX3_steadiest_74 ?_
      obtain ⟨r13, hc12, hf⟩ := zq_b1_s hf
      refine zVI (ws' := (wdX ad cy o s n t11 r w)) (rest := []) C0 (fun _ h => h) fX_t (c_X2_darkTogether (ad := fun j => ad (19 + j)) hc12) hP hD hS my_X2_darkTogether kl_X3_160 ⟨rfl, rfl⟩ ⟨Nat.le_of_ble_eq_true rfl, Nat.le_of_ble_eq_true rfl⟩ (q0 := 19) (ci := 2) rfl wdX_19 rfl hl.1 rfl (Nat.le_of_ble_eq_true rfl) dX3_steadiest_77 ⟨Nat.zero_le _, Nat.zero_le _⟩ (fun H locs hP hD hS => ?_)
      refine lv_istore (lv' := [(5, .int r13), (0, .ref (ad 0)), (1, .int x1), (2, .int x2), (3, .int x3), (4, .int x4)]) hx hb dX3_steadiest_80 hl (by decide) rfl (fun ls hl => ?_)
      refine lv_iload hx hb dX3_steadiest_82 (lv_at hl 0 rfl) ?_
      refine lv_iload_n hx hb dX3_steadiest_84 rfl (lv_at hl 4 rfl) ?_
      refine lv_icmp_ge (tgt := 94) hx hb dX3_steadiest_85 (by decide) (fun c14 => ?_) (fun c14 => ?_)
      · have hf := it_t c14 hf
        refine lv_iinc (v := (x4 + 1)) (lv' := [(4, .int (x4 + 1)), (5, .int r13), (0, .ref (ad 0)), (1, .int x1), (2, .int x2), (3, .int x3)]) hx hb dX3_steadiest_94 hl (k := 5) rfl rfl (by decide) rfl (fun ls hl => ?_)
        refine lv_goto (tgt := 57) hx hb dX3_steadiest_97 (by decide) ?_
        exact ih x2 x3 (x4 + 1) t11 hf _ _ _ hP hD hS (lv_sub hl [2, 3, 4, 5, 0] rfl)
      · have hf := it_f c14 hf
        refine lv_iload hx hb dX3_steadiest_88 (lv_at hl 5 rfl) ?_
        refine lv_istore_n (lv' := [(2, .int x4), (5, .int r13), (0, .ref (ad 0)), (1, .int x1), (3, .int x3), (4, .int x4)]) hx hb dX3_steadiest_90 rfl hl (by decide) rfl (fun ls hl => ?_)
        refine lv_iload hx hb dX3_steadiest_91 (lv_at hl 1 rfl) ?_
        refine lv_istore_n (lv' := [(3, .int r13), (2, .int x4), (5, .int r13), (0, .ref (ad 0)), (1, .int x1), (4, .int x4)]) hx hb dX3_steadiest_93 rfl hl (by decide) rfl (fun ls hl => ?_)
        refine lv_iinc (v := (x4 + 1)) (lv' := [(4, .int (x4 + 1)), (3, .int r13), (2, .int x4), (5, .int r13), (0, .ref (ad 0)), (1, .int x1)]) hx hb dX3_steadiest_94 hl (k := 5) rfl rfl (by decide) rfl (fun ls hl => ?_)
        refine lv_goto (tgt := 57) hx hb dX3_steadiest_97 (by decide) ?_
        exact ih x4 r13 (x4 + 1) t11 hf _ _ _ hP hD hS (lv_sub hl [4, 5, 2, 1, 0] rfl)
set_option maxHeartbeats 4000000 in
set_option maxRecDepth 100000 in
theorem c_X3_steadiest {l : Launch} {D : va_G} {ad : Nat → Nat} {cy : Nat → ClassId} {o : zS} {s : zS4} {n : zS} {t : zS} {r : zS} {w : zJ} {x1 : Int32} {r0 : Int32} {t' : zS} (hf : f_X3_steadiest n t x1 = some (r0, t')) : zMI l yX3_steadiest (zW yX3_steadiest cX3_steadiest 6 (some .int)) { frames := 4, cells := 0, slots := 0, locals := 90 } D cy [.ref (ad 0), .int x1] (wdX ad cy o s n t r w) r0 (wdX ad cy o s n t' r w) := by
  unfold f_X3_steadiest at hf
  refine zEI (ty := .int) (by decide) (Nat.le_of_ble_eq_true rfl) ?_
  intro p e s9 m9 below meth c A Q C0 hret ls hl hP hD
  have hl : lv_has ls 6 [(0, .ref (ad 0)), (1, .int x1)] := hl
  have hS : va_S A s9.heap s9.heap [] := va_S.rf
  obtain ⟨hx, hb, hml, hown, hts⟩ := id C0.1
  refine lv_iload_n hx hb dX3_steadiest_0 rfl (lv_at hl 1 rfl) ?_
  refine lv_if_lt (tgt := 9) hx hb dX3_steadiest_1 (by decide) (fun c1 => ?_) (fun c1 => ?_)
  · have hf := it_t c1 hf
    refine lv_bipush (v := (-2)) hx hb dX3_steadiest_9 (by decide) ?_
    obtain ⟨rfl, rfl⟩ := zq_j2 hf
    exact hret _ _ _ _ rfl dX3_steadiest_11 hP hD hS
  · have hf := it_f c1 hf
    refine lv_iload_n hx hb dX3_steadiest_4 rfl (lv_at hl 1 rfl) ?_
    refine lv_iconst (v := 2) hx hb dX3_steadiest_5 (by decide) ?_
    refine lv_icmp_le (tgt := 12) hx hb dX3_steadiest_6 (by decide) (fun c2 => ?_) (fun c2 => ?_)
    · have hf := it_t c2 hf
      refine lv_aload_n hx hb dX3_steadiest_12 rfl (lv_at hl 0 rfl) ?_
      refine gf_X3_20 C0 hP 0 wdX_0 rfl dX3_steadiest_13 ?_
      obtain ⟨r4, hc3, hf⟩ := zq_b1_s hf
      refine zVI (ws' := (wdX ad cy o s n t r w)) (rest := []) C0 (fun _ h => h) fX_n (c_X2_stands (ad := fun j => ad (10 + j)) hc3) hP hD hS my_X2_stands kl_X3_125 ⟨rfl, rfl⟩ ⟨Nat.le_of_ble_eq_true rfl, Nat.le_of_ble_eq_true rfl⟩ (q0 := 10) (ci := 2) rfl wdX_10 rfl hl.1 rfl (Nat.le_of_ble_eq_true rfl) dX3_steadiest_16 ⟨Nat.zero_le _, Nat.zero_le _⟩ (fun H locs hP hD hS => ?_)
      refine lv_if_ne (tgt := 25) hx hb dX3_steadiest_19 (by decide) (fun c5 => ?_) (fun c5 => ?_)
      · have hf := it_f c5 hf
        refine lv_iload_n hx hb dX3_steadiest_25 rfl (lv_at hl 1 rfl) ?_
        refine lv_iconst (v := 2) hx hb dX3_steadiest_26 (by decide) ?_
        refine lv_icmp_ne (tgt := 38) hx hb dX3_steadiest_27 (by decide) (fun c6 => ?_) (fun c6 => ?_)
        · have hf := it_f c6 hf
          refine lv_aload_n hx hb dX3_steadiest_38 rfl (lv_at hl 0 rfl) ?_
          refine gf_X3_24 C0 hP 0 wdX_0 rfl dX3_steadiest_39 ?_
          refine lv_aload_n hx hb dX3_steadiest_42 rfl (lv_at hl 0 rfl) ?_
          refine gf_X3_20 C0 hP 0 wdX_0 rfl dX3_steadiest_43 ?_
          obtain ⟨t8, hc7, hf⟩ := zq_b1_s hf
          refine zVV (ws' := (wdX ad cy o s n t8 r w)) (rest := []) C0 (fun _ h => h) fX_tn (c_X2_becomeLike (ad := fun j => ad (19 + j)) (a2 := fun j => ad (10 + j)) hc7) hP hD hS my_X2_becomeLike kl_X3_65 ⟨rfl, rfl⟩ ⟨Nat.le_of_ble_eq_true rfl, Nat.le_of_ble_eq_true rfl⟩ (q0 := 19) (ci := 2) rfl wdX_19 rfl hl.1 rfl (Nat.le_of_ble_eq_true rfl) dX3_steadiest_46 ⟨Nat.zero_le _, Nat.zero_le _⟩ (fun H locs hP hD hS => ?_)
          refine lv_iconst (v := 1) hx hb dX3_steadiest_49 (by decide) ?_
          refine lv_istore_n (lv' := [(2, .int 1), (0, .ref (ad 0)), (1, .int x1)]) hx hb dX3_steadiest_50 rfl hl (by decide) rfl (fun ls hl => ?_)
          refine lv_ldc hx hb hown (hts _ kc_X3_166) dX3_steadiest_51 ?_
          refine lv_istore_n (lv' := [(3, .int 2147483647), (2, .int 1), (0, .ref (ad 0)), (1, .int x1)]) hx hb dX3_steadiest_53 rfl hl (by decide) rfl (fun ls hl => ?_)
          refine lv_iconst (v := 1) hx hb dX3_steadiest_54 (by decide) ?_
          refine lv_istore (lv' := [(4, .int 1), (3, .int 2147483647), (2, .int 1), (0, .ref (ad 0)), (1, .int x1)]) hx hb dX3_steadiest_55 hl (by decide) rfl (fun ls hl => ?_)
          obtain ⟨y16, y17, t18, hL15, hf⟩ := zq_b3_s hf
          refine w_X3_steadiest_L57 C0 (fun H locs ls hP hD hS hl => ?_) 100 1 2147483647 1 t8 hL15 _ _ _ hP hD hS (lv_sub hl [3, 4, 2, 1, 0] rfl)
          refine lv_iload_n hx hb dX3_steadiest_100 rfl (lv_at hl 0 rfl) ?_
          refine lv_if_ne (tgt := 108) hx hb dX3_steadiest_101 (by decide) (fun c19 => ?_) (fun c19 => ?_)
          · have hf := it_f c19 hf
            refine lv_iload_n hx hb dX3_steadiest_108 rfl (lv_at hl 2 rfl) ?_
            obtain ⟨rfl, rfl⟩ := zq_j2 hf
            exact hret _ _ _ _ rfl dX3_steadiest_109 hP hD hS
          · have hf := it_t c19 hf
            refine lv_iload_n hx hb dX3_steadiest_104 rfl (lv_at hl 1 rfl) ?_
            refine lv_goto (tgt := 109) hx hb dX3_steadiest_105 (by decide) ?_
            obtain ⟨rfl, rfl⟩ := zq_j2 hf
            exact hret _ _ _ _ rfl dX3_steadiest_109 hP hD hS
        · have hf := it_t c6 hf
          refine lv_aload_n hx hb dX3_steadiest_30 rfl (lv_at hl 0 rfl) ?_
          refine gf_X3_20 C0 hP 0 wdX_0 rfl dX3_steadiest_31 ?_
          obtain ⟨r21, hc20, hf⟩ := zq_b1_s hf
          refine zVI (ws' := (wdX ad cy o s n t r w)) (rest := []) C0 (fun _ h => h) fX_n (c_X2_darkTogether (ad := fun j => ad (10 + j)) hc20) hP hD hS my_X2_darkTogether kl_X3_160 ⟨rfl, rfl⟩ ⟨Nat.le_of_ble_eq_true rfl, Nat.le_of_ble_eq_true rfl⟩ (q0 := 10) (ci := 2) rfl wdX_10 rfl hl.1 rfl (Nat.le_of_ble_eq_true rfl) dX3_steadiest_34 ⟨Nat.zero_le _, Nat.zero_le _⟩ (fun H locs hP hD hS => ?_)
          obtain ⟨rfl, rfl⟩ := zq_j2 hf
          exact hret _ _ _ _ rfl dX3_steadiest_37 hP hD hS
      · have hf := it_t c5 hf
        refine lv_bipush (v := (-3)) hx hb dX3_steadiest_22 (by decide) ?_
        obtain ⟨rfl, rfl⟩ := zq_j2 hf
        exact hret _ _ _ _ rfl dX3_steadiest_24 hP hD hS
    · have hf := it_f c2 hf
      refine lv_bipush (v := (-2)) hx hb dX3_steadiest_9 (by decide) ?_
      obtain ⟨rfl, rfl⟩ := zq_j2 hf
      exact hret _ _ _ _ rfl dX3_steadiest_11 hP hD hS

def f_X3_send_L83 (s : zS4) (kA : Nat) (x3 : Int32) (x4 : Int32) : Nat → Int32 → Option ((Unit) ⊕ (Unit))
  | 0, _ => none
  | q9 + 1, x7 =>
  if (x3 + x4) ≤ x7 then (
  some (Sum.inl ())) else (
  zq_rd (s kA 0) 60 x7 (fun v19 =>
  zq_b1 (f_X3_isLevel v19) (fun r22 =>
  if r22 = 0 then (
  some (Sum.inr ())) else (
  f_X3_send_L83 s kA x3 x4 q9 (x7 + 1)))))
def f_X3_send (o : zS) (s : zS4) (n : zS) (x1 : Int32) (x2 : Int32) (x3 : Int32) (x4 : Int32) : Option (Int32 × zS × zS) :=
  zq_lt (va_up o 6 (fun _ => 0)) (fun o1 =>
  zq_b1 (f_X3_isSheet x1) (fun r3 =>
  if r3 = 0 then (
  some ((-1), o1, n)) else (
  zq_b1 (f_X3_isLane x2) (fun r6 =>
  if r6 = 0 then (
  some ((-2), o1, n)) else (
  if x4 < 0 then (
  some ((-2), o1, n)) else (
  if x4 ≤ 20 then (
  zq_b1 (f_X2_stands n) (fun r11 =>
  if r11 = 0 then (
  some ((-3), o1, n)) else (
  zq_in 4 x1 (
  zq_b1 (f_X1_faultOfCells (s (Int32.toNatClampNeg x1)) x2 x3 x4) (fun r16 =>
  if r16 = 0 then (
  zq_s1_1 (f_X3_send_L83 s (Int32.toNatClampNeg x1) x3 x4 100 x3) (fun _u =>
  zq_b2 (f_X2_takeLevels n (s (Int32.toNatClampNeg x1)) x3 x4) (fun r26 n27 =>
  some ((x4 - r26), o1, n27))) (fun _u =>
  some ((-2), o1, n))) else (
  zq_b2 (f_X3_faulted o1 r16) (fun r29 o30 =>
  some (r29, o30, n)))))))) else (
  some ((-2), o1, n))))))))
set_option maxHeartbeats 4000000 in
set_option maxRecDepth 100000 in
theorem w_X3_send_L83 {l : Launch} {p : Program} {e : Env} {s9 : State} {m9 : MethodId} {ag : Array Value} {below : List Frame} {meth : Method} {c : Code} {A : Nat → Prop} {Q : State → Prop} {D : va_G} {ad : Nat → Nat} {cy : Nat → ClassId} {o : zS} {s : zS4} {n : zS} {t : zS} {r : zS} {w : zJ} {kA : Nat} {x3 : Int32} {x4 : Int32} (C0 : zCx p s9 m9 ag c cX3_send 8 RX3 D cy A) (hkA : kA < 4) {out : (Unit) ⊕ (Unit)} (e0 : ∀ (uu : Unit), out = Sum.inl uu → ∀ (H : Heap) (locs : List Loc) (ls : Array Slot), va_P D vwCl (wdX ad cy o s n t r w) H → va_D A (wdX ad cy o s n t r w) → va_S A s9.heap H locs → lv_has ls 8 [(0, .ref (ad 0)), (3, .int x3), (4, .int x4), (5, .ref (ad (2 + 2 * kA)))] → W p l e { frames := 2, cells := 0, slots := 0, locals := 73 } s9 m9 ag below meth c H locs 0 0 Q (F0 m9 115 ls [])) (e1 : ∀ (uu : Unit), out = Sum.inr uu → ∀ (H : Heap) (locs : List Loc) (ls : Array Slot), va_P D vwCl (wdX ad cy o s n t r w) H → va_D A (wdX ad cy o s n t r w) → va_S A s9.heap H locs → lv_has ls 8 [] → W p l e { frames := 2, cells := 0, slots := 0, locals := 73 } s9 m9 ag below meth c H locs 0 0 Q (F0 m9 106 ls [])) : ∀ (q9 : Nat) (x7 : Int32), f_X3_send_L83 s kA x3 x4 q9 x7 = some out → ∀ (H : Heap) (locs : List Loc) (ls : Array Slot), va_P D vwCl (wdX ad cy o s n t r w) H → va_D A (wdX ad cy o s n t r w) → va_S A s9.heap H locs → lv_has ls 8 [(0, .ref (ad 0)), (3, .int x3), (4, .int x4), (5, .ref (ad (2 + 2 * kA))), (7, .int x7)] → W p l e { frames := 2, cells := 0, slots := 0, locals := 73 } s9 m9 ag below meth c H locs 0 0 Q (F0 m9 83 ls []) := by
  obtain ⟨hx, hb, hml, hown, hts⟩ := id C0.1
  intro q9
  induction q9 with
  | zero =>
    intro x7 hf
    rw [f_X3_send_L83] at hf
    cases hf
  | succ q9 ih =>
    intro x7 hf H locs ls hP hD hS hl
    rw [f_X3_send_L83] at hf
    refine lv_iload hx hb dX3_send_83 (lv_at hl 4 rfl) ?_
    refine lv_iload_n hx hb dX3_send_85 rfl (lv_at hl 1 rfl) ?_
    refine lv_iload hx hb dX3_send_86 (lv_at hl 2 rfl) ?_
    refine lv_iadd hx hb dX3_send_88 ?_
    refine lv_icmp_ge (tgt := 115) hx hb dX3_send_89 (by decide) (fun c18 => ?_) (fun c18 => ?_)
    · have hf := it_t c18 hf
      exact e0 () (Option.some.inj hf).symm _ _ _ hP hD hS (lv_sub hl [0, 1, 2, 3] rfl)
    · have hf := it_f c18 hf
      refine lv_aload hx hb dX3_send_92 (lv_at hl 3 rfl) ?_
      refine gf_X3_167 C0 hP (2 + 2 * kA) (wdX_sh hkA) rfl dX3_send_94 ?_
      refine lv_iload hx hb dX3_send_97 (lv_at hl 4 rfl) ?_
      obtain ⟨v19, ev19, h20, hf⟩ := zq_rd_s hf
      refine zia C0 hP (2 + 2 * kA + 1) (wdX_sc hkA) ev19 h20 dX3_send_99 ?_
      obtain ⟨r22, hc21, hf⟩ := zq_b1_s hf
      refine zSI (ws' := (wdX ad cy o s n t r w)) (rest := []) C0 (fun _ h => h) zF.nil (c_X3_isLevel hc21) hP hD hS my_X3_isLevel kl_X3_119 ⟨rfl, rfl⟩ ⟨Nat.le_of_ble_eq_true rfl, Nat.le_of_ble_eq_true rfl⟩ rfl hl.1 rfl (Nat.le_of_ble_eq_true rfl) dX3_send_100 ⟨Nat.zero_le _, Nat.zero_le _⟩ (fun H locs hP hD hS => ?_)
      refine lv_if_ne (tgt := 109) hx hb dX3_send_103 (by decide) (fun c23 => ?_) (fun c23 => ?_)
      · have hf := it_f c23 hf
        refine lv_iinc (v := (x7 + 1)) (lv' := [(7, .int (x7 + 1)), (0, .ref (ad 0)), (3, .int x3), (4, .int x4), (5, .ref (ad (2 + 2 * kA)))]) hx hb dX3_send_109 hl (k := 4) rfl rfl (by decide) rfl (fun ls hl => ?_)
        refine lv_goto (tgt := 83) hx hb dX3_send_112 (by decide) ?_
        exact ih (x7 + 1) hf _ _ _ hP hD hS (lv_sub hl [1, 2, 3, 4, 0] rfl)
      · have hf := it_t c23 hf
        exact e1 () (Option.some.inj hf).symm _ _ _ hP hD hS (lv_sub hl [] rfl)
set_option maxHeartbeats 4000000 in
set_option maxRecDepth 100000 in
theorem c_X3_send {l : Launch} {D : va_G} {ad : Nat → Nat} {cy : Nat → ClassId} {o : zS} {s : zS4} {n : zS} {t : zS} {r : zS} {w : zJ} {x1 : Int32} {x2 : Int32} {x3 : Int32} {x4 : Int32} {r0 : Int32} {o' : zS} {n' : zS} (hf : f_X3_send o s n x1 x2 x3 x4 = some (r0, o', n')) : zMI l yX3_send (zW yX3_send cX3_send 8 (some .int)) { frames := 2, cells := 0, slots := 0, locals := 73 } D cy [.ref (ad 0), .int x1, .int x2, .int x3, .int x4] (wdX ad cy o s n t r w) r0 (wdX ad cy o' s n' t r w) := by
  unfold f_X3_send at hf
  refine zEI (ty := .int) (by decide) (Nat.le_of_ble_eq_true rfl) ?_
  intro p e s9 m9 below meth c A Q C0 hret ls hl hP hD
  have hl : lv_has ls 8 [(0, .ref (ad 0)), (1, .int x1), (2, .int x2), (3, .int x3), (4, .int x4)] := hl
  have hS : va_S A s9.heap s9.heap [] := va_S.rf
  obtain ⟨hx, hb, hml, hown, hts⟩ := id C0.1
  refine lv_aload_n hx hb dX3_send_0 rfl (lv_at hl 0 rfl) ?_
  refine lv_iconst (v := 0) hx hb dX3_send_1 (by decide) ?_
  obtain ⟨o1, eo1, hf⟩ := zq_lt_s hf
  refine pf_X3_42 (ws' := (wdX ad cy o1 s n t r w)) C0 hP hD hS 0 wdX_0 (Nat.le_of_ble_eq_true rfl) (by rw [eo1]; rfl) dX3_send_2 (fun H locs hP hD hS => ?_)
  refine lv_iload_n hx hb dX3_send_5 rfl (lv_at hl 1 rfl) ?_
  obtain ⟨r3, hc2, hf⟩ := zq_b1_s hf
  refine zSI (ws' := (wdX ad cy o1 s n t r w)) (rest := []) C0 (fun _ h => h) zF.nil (c_X3_isSheet hc2) hP hD hS my_X3_isSheet kl_X3_46 ⟨rfl, rfl⟩ ⟨Nat.le_of_ble_eq_true rfl, Nat.le_of_ble_eq_true rfl⟩ rfl hl.1 rfl (Nat.le_of_ble_eq_true rfl) dX3_send_6 ⟨Nat.zero_le _, Nat.zero_le _⟩ (fun H locs hP hD hS => ?_)
  refine lv_if_ne (tgt := 14) hx hb dX3_send_9 (by decide) (fun c4 => ?_) (fun c4 => ?_)
  · have hf := it_f c4 hf
    refine lv_iload_n hx hb dX3_send_14 rfl (lv_at hl 2 rfl) ?_
    obtain ⟨r6, hc5, hf⟩ := zq_b1_s hf
    refine zSI (ws' := (wdX ad cy o1 s n t r w)) (rest := []) C0 (fun _ h => h) zF.nil (c_X3_isLane hc5) hP hD hS my_X3_isLane kl_X3_50 ⟨rfl, rfl⟩ ⟨Nat.le_of_ble_eq_true rfl, Nat.le_of_ble_eq_true rfl⟩ rfl hl.1 rfl (Nat.le_of_ble_eq_true rfl) dX3_send_15 ⟨Nat.zero_le _, Nat.zero_le _⟩ (fun H locs hP hD hS => ?_)
    refine lv_if_eq (tgt := 33) hx hb dX3_send_18 (by decide) (fun c7 => ?_) (fun c7 => ?_)
    · have hf := it_t c7 hf
      refine lv_bipush (v := (-2)) hx hb dX3_send_33 (by decide) ?_
      obtain ⟨rfl, rfl, rfl⟩ := zq_j3 hf
      exact hret _ _ _ _ rfl dX3_send_35 hP hD hS
    · have hf := it_f c7 hf
      refine lv_iload hx hb dX3_send_21 (lv_at hl 4 rfl) ?_
      refine lv_if_lt (tgt := 33) hx hb dX3_send_23 (by decide) (fun c8 => ?_) (fun c8 => ?_)
      · have hf := it_t c8 hf
        refine lv_bipush (v := (-2)) hx hb dX3_send_33 (by decide) ?_
        obtain ⟨rfl, rfl, rfl⟩ := zq_j3 hf
        exact hret _ _ _ _ rfl dX3_send_35 hP hD hS
      · have hf := it_f c8 hf
        refine lv_iload hx hb dX3_send_26 (lv_at hl 4 rfl) ?_
        refine lv_bipush (v := 20) hx hb dX3_send_28 (by decide) ?_
        refine lv_icmp_le (tgt := 36) hx hb dX3_send_30 (by decide) (fun c9 => ?_) (fun c9 => ?_)
        · have hf := it_t c9 hf
          refine lv_aload_n hx hb dX3_send_36 rfl (lv_at hl 0 rfl) ?_
          refine gf_X3_20 C0 hP 0 wdX_0 rfl dX3_send_37 ?_
          obtain ⟨r11, hc10, hf⟩ := zq_b1_s hf
          refine zVI (ws' := (wdX ad cy o1 s n t r w)) (rest := []) C0 (fun _ h => h) fX_n (c_X2_stands (ad := fun j => ad (10 + j)) hc10) hP hD hS my_X2_stands kl_X3_125 ⟨rfl, rfl⟩ ⟨Nat.le_of_ble_eq_true rfl, Nat.le_of_ble_eq_true rfl⟩ (q0 := 10) (ci := 2) rfl wdX_10 rfl hl.1 rfl (Nat.le_of_ble_eq_true rfl) dX3_send_40 ⟨Nat.zero_le _, Nat.zero_le _⟩ (fun H locs hP hD hS => ?_)
          refine lv_if_ne (tgt := 49) hx hb dX3_send_43 (by decide) (fun c12 => ?_) (fun c12 => ?_)
          · have hf := it_f c12 hf
            refine lv_aload_n hx hb dX3_send_49 rfl (lv_at hl 0 rfl) ?_
            refine gf_X3_13 C0 hP 0 wdX_0 rfl dX3_send_50 ?_
            refine lv_iload_n hx hb dX3_send_53 rfl (lv_at hl 1 rfl) ?_
            obtain ⟨h13, hf⟩ := zq_in_s hf
            have hk14 := vp_lt h13
            refine zra C0 hP 1 wdX_1 (zRw_at hk14) h13 dX3_send_54 ?_
            refine lv_astore (lv' := [(5, .ref (ad (2 + 2 * (Int32.toNatClampNeg x1)))), (0, .ref (ad 0)), (1, .int x1), (2, .int x2), (3, .int x3), (4, .int x4)]) hx hb dX3_send_55 hl (by decide) rfl (fun ls hl => ?_)
            refine lv_aload hx hb dX3_send_57 (lv_at hl 0 rfl) ?_
            refine lv_iload_n hx hb dX3_send_59 rfl (lv_at hl 3 rfl) ?_
            refine lv_iload_n hx hb dX3_send_60 rfl (lv_at hl 4 rfl) ?_
            refine lv_iload hx hb dX3_send_61 (lv_at hl 5 rfl) ?_
            obtain ⟨r16, hc15, hf⟩ := zq_b1_s hf
            refine zVI (ws' := (wdX ad cy o1 s n t r w)) (rest := []) C0 (fun _ h => h) (fX_s0 hk14) (c_X1_faultOfCells (ad := fun j => ad (2 + 2 * (Int32.toNatClampNeg x1) + j)) hc15) hP hD hS my_X1_faultOfCells kl_X3_53 ⟨rfl, rfl⟩ ⟨Nat.le_of_ble_eq_true rfl, Nat.le_of_ble_eq_true rfl⟩ (q0 := (2 + 2 * (Int32.toNatClampNeg x1))) (ci := 1) rfl (wdX_sh hk14) rfl hl.1 rfl (Nat.le_of_ble_eq_true rfl) dX3_send_63 ⟨Nat.zero_le _, Nat.zero_le _⟩ (fun H locs hP hD hS => ?_)
            refine lv_istore (lv' := [(6, .int r16), (5, .ref (ad (2 + 2 * (Int32.toNatClampNeg x1)))), (0, .ref (ad 0)), (1, .int x1), (2, .int x2), (3, .int x3), (4, .int x4)]) hx hb dX3_send_66 hl (by decide) rfl (fun ls hl => ?_)
            refine lv_iload hx hb dX3_send_68 (lv_at hl 0 rfl) ?_
            refine lv_if_eq (tgt := 80) hx hb dX3_send_70 (by decide) (fun c17 => ?_) (fun c17 => ?_)
            · have hf := it_t c17 hf
              refine lv_iload_n hx hb dX3_send_80 rfl (lv_at hl 5 rfl) ?_
              refine lv_istore (lv' := [(7, .int x3), (6, .int r16), (5, .ref (ad (2 + 2 * (Int32.toNatClampNeg x1)))), (0, .ref (ad 0)), (1, .int x1), (2, .int x2), (3, .int x3), (4, .int x4)]) hx hb dX3_send_81 hl (by decide) rfl (fun ls hl => ?_)
              rcases zq_s1_1_s hf with ⟨_u, hL24, hf⟩ | ⟨_u, hL24, hf⟩
              · refine w_X3_send_L83 C0 hk14 (zq_el1 ?_) (zq_nr1) 100 x3 hL24 _ _ _ hP hD hS (lv_sub hl [3, 6, 7, 2, 0] rfl)
                intro H locs ls hP hD hS hl
                refine lv_iload hx hb dX3_send_115 (lv_at hl 2 rfl) ?_
                refine lv_aload_n hx hb dX3_send_117 rfl (lv_at hl 0 rfl) ?_
                refine gf_X3_20 C0 hP 0 wdX_0 rfl dX3_send_118 ?_
                refine lv_aload hx hb dX3_send_121 (lv_at hl 3 rfl) ?_
                refine lv_iload_n hx hb dX3_send_123 rfl (lv_at hl 1 rfl) ?_
                refine lv_iload hx hb dX3_send_124 (lv_at hl 2 rfl) ?_
                obtain ⟨r26, n27, hc25, hf⟩ := zq_b2_s hf
                refine zVI (ws' := (wdX ad cy o1 s n27 t r w)) (rest := [.int x4]) C0 (fun _ h => h) (fX_ns hk14) (c_X2_takeLevels (ad := fun j => ad (10 + j)) (a2 := fun j => ad (2 + 2 * (Int32.toNatClampNeg x1) + j)) hc25) hP hD hS my_X2_takeLevels kl_X3_170 ⟨rfl, rfl⟩ ⟨Nat.le_of_ble_eq_true rfl, Nat.le_of_ble_eq_true rfl⟩ (q0 := 10) (ci := 2) rfl wdX_10 rfl hl.1 rfl (Nat.le_of_ble_eq_true rfl) dX3_send_126 ⟨Nat.zero_le _, Nat.zero_le _⟩ (fun H locs hP hD hS => ?_)
                refine lv_isub hx hb dX3_send_129 ?_
                obtain ⟨rfl, rfl, rfl⟩ := zq_j3 hf
                exact hret _ _ _ _ rfl dX3_send_130 hP hD hS
              · refine w_X3_send_L83 C0 hk14 (zq_nl1) (zq_er1 ?_) 100 x3 hL24 _ _ _ hP hD hS (lv_sub hl [3, 6, 7, 2, 0] rfl)
                intro H locs ls hP hD hS hl
                refine lv_bipush (v := (-2)) hx hb dX3_send_106 (by decide) ?_
                obtain ⟨rfl, rfl, rfl⟩ := zq_j3 hf
                exact hret _ _ _ _ rfl dX3_send_108 hP hD hS
            · have hf := it_f c17 hf
              refine lv_aload_n hx hb dX3_send_73 rfl (lv_at hl 2 rfl) ?_
              refine lv_iload hx hb dX3_send_74 (lv_at hl 0 rfl) ?_
              obtain ⟨r29, o30, hc28, hf⟩ := zq_b2_s hf
              refine zVI (ws' := (wdX ad cy o30 s n t r w)) (rest := []) C0 (fun _ h => h) zF.id (c_X3_faulted hc28) hP hD hS my_X3_faulted kl_X3_57 ⟨rfl, rfl⟩ ⟨Nat.le_of_ble_eq_true rfl, Nat.le_of_ble_eq_true rfl⟩ (q0 := 0) (ci := 3) rfl wdX_0 rfl hl.1 rfl (Nat.le_of_ble_eq_true rfl) dX3_send_76 ⟨Nat.zero_le _, Nat.zero_le _⟩ (fun H locs hP hD hS => ?_)
              obtain ⟨rfl, rfl, rfl⟩ := zq_j3 hf
              exact hret _ _ _ _ rfl dX3_send_79 hP hD hS
          · have hf := it_t c12 hf
            refine lv_bipush (v := (-3)) hx hb dX3_send_46 (by decide) ?_
            obtain ⟨rfl, rfl, rfl⟩ := zq_j3 hf
            exact hret _ _ _ _ rfl dX3_send_48 hP hD hS
        · have hf := it_f c9 hf
          refine lv_bipush (v := (-2)) hx hb dX3_send_33 (by decide) ?_
          obtain ⟨rfl, rfl, rfl⟩ := zq_j3 hf
          exact hret _ _ _ _ rfl dX3_send_35 hP hD hS
  · have hf := it_t c4 hf
    refine lv_iconst (v := (-1)) hx hb dX3_send_12 (by decide) ?_
    obtain ⟨rfl, rfl, rfl⟩ := zq_j3 hf
    exact hret _ _ _ _ rfl dX3_send_13 hP hD hS

def f_X3_isOfDay  (x0 : Int32) : Option (Int32) :=
  if x0 < 0 then (
  if x0 < 10 then (
  some 0) else (
  if 26 ≤ x0 then (
  some 0) else (
  some 1))) else (
  if x0 ≤ 4 then (
  some 1) else (
  if x0 < 10 then (
  some 0) else (
  if 26 ≤ x0 then (
  some 0) else (
  some 1))))
set_option maxHeartbeats 4000000 in
set_option maxRecDepth 100000 in
theorem c_X3_isOfDay {l : Launch} {D : va_G} {cy : Nat → ClassId}   {x0 : Int32} {r0 : Int32} (hf : f_X3_isOfDay x0 = some r0) : zMI l yX3_isOfDay (zW yX3_isOfDay cX3_isOfDay 1 (some .boolean)) { frames := 0, cells := 0, slots := 0, locals := 0 } D cy [.int x0] [] r0 [] := by
  unfold f_X3_isOfDay at hf
  refine zEI (ty := .boolean) (by decide) (Nat.le_of_ble_eq_true rfl) ?_
  intro p e s9 m9 below meth c A Q C0 hret ls hl hP hD
  have hl : lv_has ls 1 [(0, .int x0)] := hl
  have hS : va_S A s9.heap s9.heap [] := va_S.rf
  obtain ⟨hx, hb, hml, hown, hts⟩ := id C0.1
  refine lv_iload_n hx hb dX3_isOfDay_0 rfl (lv_at hl 0 rfl) ?_
  refine lv_if_lt (tgt := 9) hx hb dX3_isOfDay_1 (by decide) (fun c1 => ?_) (fun c1 => ?_)
  · have hf := it_t c1 hf
    refine lv_iload_n hx hb dX3_isOfDay_9 rfl (lv_at hl 0 rfl) ?_
    refine lv_bipush (v := 10) hx hb dX3_isOfDay_10 (by decide) ?_
    refine lv_icmp_lt (tgt := 25) hx hb dX3_isOfDay_12 (by decide) (fun c2 => ?_) (fun c2 => ?_)
    · have hf := it_t c2 hf
      refine lv_iconst (v := 0) hx hb dX3_isOfDay_25 (by decide) ?_
      obtain rfl := Option.some.inj hf
      exact hret _ _ _ _ rfl dX3_isOfDay_26 hP hD hS
    · have hf := it_f c2 hf
      refine lv_iload_n hx hb dX3_isOfDay_15 rfl (lv_at hl 0 rfl) ?_
      refine lv_bipush (v := 26) hx hb dX3_isOfDay_16 (by decide) ?_
      refine lv_icmp_ge (tgt := 25) hx hb dX3_isOfDay_18 (by decide) (fun c3 => ?_) (fun c3 => ?_)
      · have hf := it_t c3 hf
        refine lv_iconst (v := 0) hx hb dX3_isOfDay_25 (by decide) ?_
        obtain rfl := Option.some.inj hf
        exact hret _ _ _ _ rfl dX3_isOfDay_26 hP hD hS
      · have hf := it_f c3 hf
        refine lv_iconst (v := 1) hx hb dX3_isOfDay_21 (by decide) ?_
        refine lv_goto (tgt := 26) hx hb dX3_isOfDay_22 (by decide) ?_
        obtain rfl := Option.some.inj hf
        exact hret _ _ _ _ rfl dX3_isOfDay_26 hP hD hS
  · have hf := it_f c1 hf
    refine lv_iload_n hx hb dX3_isOfDay_4 rfl (lv_at hl 0 rfl) ?_
    refine lv_iconst (v := 4) hx hb dX3_isOfDay_5 (by decide) ?_
    refine lv_icmp_le (tgt := 21) hx hb dX3_isOfDay_6 (by decide) (fun c4 => ?_) (fun c4 => ?_)
    · have hf := it_t c4 hf
      refine lv_iconst (v := 1) hx hb dX3_isOfDay_21 (by decide) ?_
      refine lv_goto (tgt := 26) hx hb dX3_isOfDay_22 (by decide) ?_
      obtain rfl := Option.some.inj hf
      exact hret _ _ _ _ rfl dX3_isOfDay_26 hP hD hS
    · have hf := it_f c4 hf
      refine lv_iload_n hx hb dX3_isOfDay_9 rfl (lv_at hl 0 rfl) ?_
      refine lv_bipush (v := 10) hx hb dX3_isOfDay_10 (by decide) ?_
      refine lv_icmp_lt (tgt := 25) hx hb dX3_isOfDay_12 (by decide) (fun c5 => ?_) (fun c5 => ?_)
      · have hf := it_t c5 hf
        refine lv_iconst (v := 0) hx hb dX3_isOfDay_25 (by decide) ?_
        obtain rfl := Option.some.inj hf
        exact hret _ _ _ _ rfl dX3_isOfDay_26 hP hD hS
      · have hf := it_f c5 hf
        refine lv_iload_n hx hb dX3_isOfDay_15 rfl (lv_at hl 0 rfl) ?_
        refine lv_bipush (v := 26) hx hb dX3_isOfDay_16 (by decide) ?_
        refine lv_icmp_ge (tgt := 25) hx hb dX3_isOfDay_18 (by decide) (fun c6 => ?_) (fun c6 => ?_)
        · have hf := it_t c6 hf
          refine lv_iconst (v := 0) hx hb dX3_isOfDay_25 (by decide) ?_
          obtain rfl := Option.some.inj hf
          exact hret _ _ _ _ rfl dX3_isOfDay_26 hP hD hS
        · have hf := it_f c6 hf
          refine lv_iconst (v := 1) hx hb dX3_isOfDay_21 (by decide) ?_
          refine lv_goto (tgt := 26) hx hb dX3_isOfDay_22 (by decide) ?_
          obtain rfl := Option.some.inj hf
          exact hret _ _ _ _ rfl dX3_isOfDay_26 hP hD hS

def f_X3_isAct_J15 (j0 : Int32) (j1 : Int32) : Option (Int32) :=
  if j1 = 20 then (
  zq_b1 (f_X3_isCut j0) (fun r7 =>
  zq_z r7 (some r7))) else (
  if j1 < 30 then (
  some 0) else (
  if 34 ≤ j1 then (
  some 0) else (
  if j0 = 0 then (
  some 1) else (
  some 0))))
def f_X3_isAct  (x0 : Int32) (x1 : Int32) : Option (Int32) :=
  if x1 < 0 then (
  f_X3_isAct_J15 x0 x1) else (
  if 16 ≤ x1 then (
  f_X3_isAct_J15 x0 x1) else (
  zq_b1 (f_X3_isLevel x0) (fun r11 =>
  zq_z r11 (some r11))))
set_option maxHeartbeats 4000000 in
set_option maxRecDepth 100000 in
theorem c_X3_isAct {l : Launch} {D : va_G} {cy : Nat → ClassId}   {x0 : Int32} {x1 : Int32} {r0 : Int32} (hf : f_X3_isAct x0 x1 = some r0) : zMI l yX3_isAct (zW yX3_isAct cX3_isAct 2 (some .boolean)) { frames := 1, cells := 0, slots := 0, locals := 20 } D cy [.int x0, .int x1] [] r0 [] := by
  unfold f_X3_isAct at hf
  refine zEI (ty := .boolean) (by decide) (Nat.le_of_ble_eq_true rfl) ?_
  intro p e s9 m9 below meth c A Q C0 hret ls hl hP hD
  have hl : lv_has ls 2 [(0, .int x0), (1, .int x1)] := hl
  have hS : va_S A s9.heap s9.heap [] := va_S.rf
  obtain ⟨hx, hb, hml, hown, hts⟩ := id C0.1
  have hj15 : ∀ (j0 : Int32) (j1 : Int32), f_X3_isAct_J15 j0 j1 = some r0 → ∀ (H : Heap) (locs : List Loc) (ls : Array Slot), va_P D vwCl [] H → va_D A [] → va_S A s9.heap H locs → lv_has ls 2 [(0, .int j0), (1, .int j1)] → W p l e { frames := 1, cells := 0, slots := 0, locals := 20 } s9 m9 [.int x0, .int x1].toArray below meth c H locs 0 0 Q (F0 m9 15 ls []) := by
    intro j0 j1 hf H locs ls hP hD hS hl
    unfold f_X3_isAct_J15 at hf
    refine lv_iload_n hx hb dX3_isAct_15 rfl (lv_at hl 1 rfl) ?_
    refine lv_bipush (v := 20) hx hb dX3_isAct_16 (by decide) ?_
    refine lv_icmp_ne (tgt := 26) hx hb dX3_isAct_18 (by decide) (fun c2 => ?_) (fun c2 => ?_)
    · have hf := it_f c2 hf
      refine lv_iload_n hx hb dX3_isAct_26 rfl (lv_at hl 1 rfl) ?_
      refine lv_bipush (v := 30) hx hb dX3_isAct_27 (by decide) ?_
      refine lv_icmp_lt (tgt := 46) hx hb dX3_isAct_29 (by decide) (fun c3 => ?_) (fun c3 => ?_)
      · have hf := it_t c3 hf
        refine lv_iconst (v := 0) hx hb dX3_isAct_46 (by decide) ?_
        obtain rfl := Option.some.inj hf
        exact hret _ _ _ _ rfl dX3_isAct_47 hP hD hS
      · have hf := it_f c3 hf
        refine lv_iload_n hx hb dX3_isAct_32 rfl (lv_at hl 1 rfl) ?_
        refine lv_bipush (v := 34) hx hb dX3_isAct_33 (by decide) ?_
        refine lv_icmp_ge (tgt := 46) hx hb dX3_isAct_35 (by decide) (fun c4 => ?_) (fun c4 => ?_)
        · have hf := it_t c4 hf
          refine lv_iconst (v := 0) hx hb dX3_isAct_46 (by decide) ?_
          obtain rfl := Option.some.inj hf
          exact hret _ _ _ _ rfl dX3_isAct_47 hP hD hS
        · have hf := it_f c4 hf
          refine lv_iload_n hx hb dX3_isAct_38 rfl (lv_at hl 0 rfl) ?_
          refine lv_if_ne (tgt := 46) hx hb dX3_isAct_39 (by decide) (fun c5 => ?_) (fun c5 => ?_)
          · have hf := it_f c5 hf
            refine lv_iconst (v := 0) hx hb dX3_isAct_46 (by decide) ?_
            obtain rfl := Option.some.inj hf
            exact hret _ _ _ _ rfl dX3_isAct_47 hP hD hS
          · have hf := it_t c5 hf
            refine lv_iconst (v := 1) hx hb dX3_isAct_42 (by decide) ?_
            refine lv_goto (tgt := 47) hx hb dX3_isAct_43 (by decide) ?_
            obtain rfl := Option.some.inj hf
            exact hret _ _ _ _ rfl dX3_isAct_47 hP hD hS
    · have hf := it_t c2 hf
      refine lv_iload_n hx hb dX3_isAct_21 rfl (lv_at hl 0 rfl) ?_
      obtain ⟨r7, hc6, hf⟩ := zq_b1_s hf
      refine zSI (ws' := []) (rest := []) C0 (fun _ h => h) zF.nil (c_X3_isCut hc6) hP hD hS my_X3_isCut kl_X3_122 ⟨rfl, rfl⟩ ⟨Nat.le_of_ble_eq_true rfl, Nat.le_of_ble_eq_true rfl⟩ rfl hl.1 rfl (Nat.le_of_ble_eq_true rfl) dX3_isAct_22 ⟨Nat.zero_le _, Nat.zero_le _⟩ (fun H locs hP hD hS => ?_)
      obtain ⟨h8, hf⟩ := zq_z_s hf
      obtain rfl := Option.some.inj hf
      exact hret _ _ _ _ (zq_nz h8) dX3_isAct_25 hP hD hS
  refine lv_iload_n hx hb dX3_isAct_0 rfl (lv_at hl 1 rfl) ?_
  refine lv_if_lt (tgt := 15) hx hb dX3_isAct_1 (by decide) (fun c1 => ?_) (fun c1 => ?_)
  · have hf := it_t c1 hf
    exact hj15 x0 x1 hf _ _ _ hP hD hS (lv_sub hl [0, 1] rfl)
  · have hf := it_f c1 hf
    refine lv_iload_n hx hb dX3_isAct_4 rfl (lv_at hl 1 rfl) ?_
    refine lv_bipush (v := 16) hx hb dX3_isAct_5 (by decide) ?_
    refine lv_icmp_ge (tgt := 15) hx hb dX3_isAct_7 (by decide) (fun c9 => ?_) (fun c9 => ?_)
    · have hf := it_t c9 hf
      exact hj15 x0 x1 hf _ _ _ hP hD hS (lv_sub hl [0, 1] rfl)
    · have hf := it_f c9 hf
      refine lv_iload_n hx hb dX3_isAct_10 rfl (lv_at hl 0 rfl) ?_
      obtain ⟨r11, hc10, hf⟩ := zq_b1_s hf
      refine zSI (ws' := []) (rest := []) C0 (fun _ h => h) zF.nil (c_X3_isLevel hc10) hP hD hS my_X3_isLevel kl_X3_119 ⟨rfl, rfl⟩ ⟨Nat.le_of_ble_eq_true rfl, Nat.le_of_ble_eq_true rfl⟩ rfl hl.1 rfl (Nat.le_of_ble_eq_true rfl) dX3_isAct_11 ⟨Nat.zero_le _, Nat.zero_le _⟩ (fun H locs hP hD hS => ?_)
      obtain ⟨h12, hf⟩ := zq_z_s hf
      obtain rfl := Option.some.inj hf
      exact hret _ _ _ _ (zq_nz h12) dX3_isAct_14 hP hD hS

def f_X3_endOfDay (t : zS) (x1 : Int32) : Option (Int32) :=
  if x1 = 0 then (
  zq_b1 (f_X2_lightTogether t) (fun r3 =>
  some r3)) else (
  if x1 = 1 then (
  zq_b1 (f_X2_hasLamp t (x1 - 10)) (fun r6 =>
  if r6 = 0 then (
  some (-9)) else (
  zq_rd (t 4) 16 (x1 - 10) (fun v8 =>
  some v8)))) else (
  if x1 = 2 then (
  zq_b1 (f_X2_greatestCurrentDimmed t 15) (fun r12 =>
  some r12)) else (
  if x1 = 3 then (
  zq_b1 (f_X2_darkTogether t) (fun r15 =>
  some r15)) else (
  if x1 = 4 then (
  zq_b1 (f_X2_ghostsTogether t) (fun r18 =>
  some r18)) else (
  zq_b1 (f_X2_hasLamp t (x1 - 10)) (fun r20 =>
  if r20 = 0 then (
  some (-9)) else (
  zq_rd (t 4) 16 (x1 - 10) (fun v22 =>
  some v22))))))))
set_option maxHeartbeats 4000000 in
set_option maxRecDepth 100000 in
theorem c_X3_endOfDay {l : Launch} {D : va_G} {ad : Nat → Nat} {cy : Nat → ClassId} {o : zS} {s : zS4} {n : zS} {t : zS} {r : zS} {w : zJ} {x1 : Int32} {r0 : Int32} (hf : f_X3_endOfDay t x1 = some r0) : zMI l yX3_endOfDay (zW yX3_endOfDay cX3_endOfDay 3 (some .int)) { frames := 5, cells := 0, slots := 0, locals := 112 } D cy [.ref (ad 0), .int x1] (wdX ad cy o s n t r w) r0 (wdX ad cy o s n t r w) := by
  unfold f_X3_endOfDay at hf
  refine zEI (ty := .int) (by decide) (Nat.le_of_ble_eq_true rfl) ?_
  intro p e s9 m9 below meth c A Q C0 hret ls hl hP hD
  have hl : lv_has ls 3 [(0, .ref (ad 0)), (1, .int x1)] := hl
  have hS : va_S A s9.heap s9.heap [] := va_S.rf
  obtain ⟨hx, hb, hml, hown, hts⟩ := id C0.1
  refine lv_iload_n hx hb dX3_endOfDay_0 rfl (lv_at hl 1 rfl) ?_
  by_cases c1 : x1 = 0
  · have hf := it_t c1 hf
    refine lv_tableIn (off := 35) (tgt := 36) hx hb dX3_endOfDay_1 (by rw [c1]; decide) (by rw [c1]; decide) (by rw [c1]; rfl) (by decide) ?_
    refine lv_aload_n hx hb dX3_endOfDay_36 rfl (lv_at hl 0 rfl) ?_
    refine gf_X3_24 C0 hP 0 wdX_0 rfl dX3_endOfDay_37 ?_
    obtain ⟨r3, hc2, hf⟩ := zq_b1_s hf
    refine zVI (ws' := (wdX ad cy o s n t r w)) (rest := []) C0 (fun _ h => h) fX_t (c_X2_lightTogether (ad := fun j => ad (19 + j)) hc2) hP hD hS my_X2_lightTogether kl_X3_247 ⟨rfl, rfl⟩ ⟨Nat.le_of_ble_eq_true rfl, Nat.le_of_ble_eq_true rfl⟩ (q0 := 19) (ci := 2) rfl wdX_19 rfl hl.1 rfl (Nat.le_of_ble_eq_true rfl) dX3_endOfDay_40 ⟨Nat.zero_le _, Nat.zero_le _⟩ (fun H locs hP hD hS => ?_)
    obtain rfl := Option.some.inj hf
    exact hret _ _ _ _ rfl dX3_endOfDay_43 hP hD hS
  have hf := it_f c1 hf
  by_cases c4 : x1 = 1
  · have hf := it_t c4 hf
    refine lv_tableIn (off := 69) (tgt := 70) hx hb dX3_endOfDay_1 (by rw [c4]; decide) (by rw [c4]; decide) (by rw [c4]; rfl) (by decide) ?_
    refine lv_iload_n hx hb dX3_endOfDay_70 rfl (lv_at hl 1 rfl) ?_
    refine lv_bipush (v := 10) hx hb dX3_endOfDay_71 (by decide) ?_
    refine lv_isub hx hb dX3_endOfDay_73 ?_
    refine lv_istore_n (lv' := [(2, .int (x1 - 10)), (0, .ref (ad 0)), (1, .int x1)]) hx hb dX3_endOfDay_74 rfl hl (by decide) rfl (fun ls hl => ?_)
    refine lv_aload_n hx hb dX3_endOfDay_75 rfl (lv_at hl 1 rfl) ?_
    refine gf_X3_24 C0 hP 0 wdX_0 rfl dX3_endOfDay_76 ?_
    refine lv_iload_n hx hb dX3_endOfDay_79 rfl (lv_at hl 0 rfl) ?_
    obtain ⟨r6, hc5, hf⟩ := zq_b1_s hf
    refine zVI (ws' := (wdX ad cy o s n t r w)) (rest := []) C0 (fun _ h => h) fX_t (c_X2_hasLamp (ad := fun j => ad (19 + j)) hc5) hP hD hS my_X2_hasLamp kl_X3_95 ⟨rfl, rfl⟩ ⟨Nat.le_of_ble_eq_true rfl, Nat.le_of_ble_eq_true rfl⟩ (q0 := 19) (ci := 2) rfl wdX_19 rfl hl.1 rfl (Nat.le_of_ble_eq_true rfl) dX3_endOfDay_80 ⟨Nat.zero_le _, Nat.zero_le _⟩ (fun H locs hP hD hS => ?_)
    refine lv_if_eq (tgt := 98) hx hb dX3_endOfDay_83 (by decide) (fun c7 => ?_) (fun c7 => ?_)
    · have hf := it_t c7 hf
      refine lv_bipush (v := (-9)) hx hb dX3_endOfDay_98 (by decide) ?_
      obtain rfl := Option.some.inj hf
      exact hret _ _ _ _ rfl dX3_endOfDay_100 hP hD hS
    · have hf := it_f c7 hf
      refine lv_aload_n hx hb dX3_endOfDay_86 rfl (lv_at hl 1 rfl) ?_
      refine gf_X3_24 C0 hP 0 wdX_0 rfl dX3_endOfDay_87 ?_
      refine gf_X3_101 C0 hP 19 wdX_19 rfl dX3_endOfDay_90 ?_
      refine lv_iload_n hx hb dX3_endOfDay_93 rfl (lv_at hl 0 rfl) ?_
      obtain ⟨v8, ev8, h9, hf⟩ := zq_rd_s hf
      refine zia C0 hP 24 wdX_24 ev8 h9 dX3_endOfDay_94 ?_
      refine lv_goto (tgt := 100) hx hb dX3_endOfDay_95 (by decide) ?_
      obtain rfl := Option.some.inj hf
      exact hret _ _ _ _ rfl dX3_endOfDay_100 hP hD hS
  have hf := it_f c4 hf
  by_cases c10 : x1 = 2
  · have hf := it_t c10 hf
    refine lv_tableIn (off := 43) (tgt := 44) hx hb dX3_endOfDay_1 (by rw [c10]; decide) (by rw [c10]; decide) (by rw [c10]; rfl) (by decide) ?_
    refine lv_aload_n hx hb dX3_endOfDay_44 rfl (lv_at hl 0 rfl) ?_
    refine gf_X3_24 C0 hP 0 wdX_0 rfl dX3_endOfDay_45 ?_
    refine lv_bipush (v := 15) hx hb dX3_endOfDay_48 (by decide) ?_
    obtain ⟨r12, hc11, hf⟩ := zq_b1_s hf
    refine zVI (ws' := (wdX ad cy o s n t r w)) (rest := []) C0 (fun _ h => h) fX_t (c_X2_greatestCurrentDimmed (ad := fun j => ad (19 + j)) hc11) hP hD hS my_X2_greatestCurrentDimmed kl_X3_157 ⟨rfl, rfl⟩ ⟨Nat.le_of_ble_eq_true rfl, Nat.le_of_ble_eq_true rfl⟩ (q0 := 19) (ci := 2) rfl wdX_19 rfl hl.1 rfl (Nat.le_of_ble_eq_true rfl) dX3_endOfDay_50 ⟨Nat.zero_le _, Nat.zero_le _⟩ (fun H locs hP hD hS => ?_)
    obtain rfl := Option.some.inj hf
    exact hret _ _ _ _ rfl dX3_endOfDay_53 hP hD hS
  have hf := it_f c10 hf
  by_cases c13 : x1 = 3
  · have hf := it_t c13 hf
    refine lv_tableIn (off := 53) (tgt := 54) hx hb dX3_endOfDay_1 (by rw [c13]; decide) (by rw [c13]; decide) (by rw [c13]; rfl) (by decide) ?_
    refine lv_aload_n hx hb dX3_endOfDay_54 rfl (lv_at hl 0 rfl) ?_
    refine gf_X3_24 C0 hP 0 wdX_0 rfl dX3_endOfDay_55 ?_
    obtain ⟨r15, hc14, hf⟩ := zq_b1_s hf
    refine zVI (ws' := (wdX ad cy o s n t r w)) (rest := []) C0 (fun _ h => h) fX_t (c_X2_darkTogether (ad := fun j => ad (19 + j)) hc14) hP hD hS my_X2_darkTogether kl_X3_160 ⟨rfl, rfl⟩ ⟨Nat.le_of_ble_eq_true rfl, Nat.le_of_ble_eq_true rfl⟩ (q0 := 19) (ci := 2) rfl wdX_19 rfl hl.1 rfl (Nat.le_of_ble_eq_true rfl) dX3_endOfDay_58 ⟨Nat.zero_le _, Nat.zero_le _⟩ (fun H locs hP hD hS => ?_)
    obtain rfl := Option.some.inj hf
    exact hret _ _ _ _ rfl dX3_endOfDay_61 hP hD hS
  have hf := it_f c13 hf
  by_cases c16 : x1 = 4
  · have hf := it_t c16 hf
    refine lv_tableIn (off := 61) (tgt := 62) hx hb dX3_endOfDay_1 (by rw [c16]; decide) (by rw [c16]; decide) (by rw [c16]; rfl) (by decide) ?_
    refine lv_aload_n hx hb dX3_endOfDay_62 rfl (lv_at hl 0 rfl) ?_
    refine gf_X3_24 C0 hP 0 wdX_0 rfl dX3_endOfDay_63 ?_
    obtain ⟨r18, hc17, hf⟩ := zq_b1_s hf
    refine zVI (ws' := (wdX ad cy o s n t r w)) (rest := []) C0 (fun _ h => h) fX_t (c_X2_ghostsTogether (ad := fun j => ad (19 + j)) hc17) hP hD hS my_X2_ghostsTogether kl_X3_250 ⟨rfl, rfl⟩ ⟨Nat.le_of_ble_eq_true rfl, Nat.le_of_ble_eq_true rfl⟩ (q0 := 19) (ci := 2) rfl wdX_19 rfl hl.1 rfl (Nat.le_of_ble_eq_true rfl) dX3_endOfDay_66 ⟨Nat.zero_le _, Nat.zero_le _⟩ (fun H locs hP hD hS => ?_)
    obtain rfl := Option.some.inj hf
    exact hret _ _ _ _ rfl dX3_endOfDay_69 hP hD hS
  have hf := it_f c16 hf
  refine lv_tableOut (tgt := 70) hx hb dX3_endOfDay_1 (by have := lv_neT c1 (show (0 : Int32).toInt = 0 by decide); have := lv_neT c4 (show (1 : Int32).toInt = 1 by decide); have := lv_neT c10 (show (2 : Int32).toInt = 2 by decide); have := lv_neT c13 (show (3 : Int32).toInt = 3 by decide); have := lv_neT c16 (show (4 : Int32).toInt = 4 by decide); omega) (by decide) ?_
  refine lv_iload_n hx hb dX3_endOfDay_70 rfl (lv_at hl 1 rfl) ?_
  refine lv_bipush (v := 10) hx hb dX3_endOfDay_71 (by decide) ?_
  refine lv_isub hx hb dX3_endOfDay_73 ?_
  refine lv_istore_n (lv' := [(2, .int (x1 - 10)), (0, .ref (ad 0)), (1, .int x1)]) hx hb dX3_endOfDay_74 rfl hl (by decide) rfl (fun ls hl => ?_)
  refine lv_aload_n hx hb dX3_endOfDay_75 rfl (lv_at hl 1 rfl) ?_
  refine gf_X3_24 C0 hP 0 wdX_0 rfl dX3_endOfDay_76 ?_
  refine lv_iload_n hx hb dX3_endOfDay_79 rfl (lv_at hl 0 rfl) ?_
  obtain ⟨r20, hc19, hf⟩ := zq_b1_s hf
  refine zVI (ws' := (wdX ad cy o s n t r w)) (rest := []) C0 (fun _ h => h) fX_t (c_X2_hasLamp (ad := fun j => ad (19 + j)) hc19) hP hD hS my_X2_hasLamp kl_X3_95 ⟨rfl, rfl⟩ ⟨Nat.le_of_ble_eq_true rfl, Nat.le_of_ble_eq_true rfl⟩ (q0 := 19) (ci := 2) rfl wdX_19 rfl hl.1 rfl (Nat.le_of_ble_eq_true rfl) dX3_endOfDay_80 ⟨Nat.zero_le _, Nat.zero_le _⟩ (fun H locs hP hD hS => ?_)
  refine lv_if_eq (tgt := 98) hx hb dX3_endOfDay_83 (by decide) (fun c21 => ?_) (fun c21 => ?_)
  · have hf := it_t c21 hf
    refine lv_bipush (v := (-9)) hx hb dX3_endOfDay_98 (by decide) ?_
    obtain rfl := Option.some.inj hf
    exact hret _ _ _ _ rfl dX3_endOfDay_100 hP hD hS
  · have hf := it_f c21 hf
    refine lv_aload_n hx hb dX3_endOfDay_86 rfl (lv_at hl 1 rfl) ?_
    refine gf_X3_24 C0 hP 0 wdX_0 rfl dX3_endOfDay_87 ?_
    refine gf_X3_101 C0 hP 19 wdX_19 rfl dX3_endOfDay_90 ?_
    refine lv_iload_n hx hb dX3_endOfDay_93 rfl (lv_at hl 0 rfl) ?_
    obtain ⟨v22, ev22, h23, hf⟩ := zq_rd_s hf
    refine zia C0 hP 24 wdX_24 ev22 h23 dX3_endOfDay_94 ?_
    refine lv_goto (tgt := 100) hx hb dX3_endOfDay_95 (by decide) ?_
    obtain rfl := Option.some.inj hf
    exact hret _ _ _ _ rfl dX3_endOfDay_100 hP hD hS
