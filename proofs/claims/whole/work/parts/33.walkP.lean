def f_X4_odds_L52  : Nat → Int32 → zJ → Option (zJ)
  | 0, _, _ => none
  | q9 + 1, x4, u =>
  if 17 ≤ x4 then (
  some u) else (
  if x4 = 0 then (
  zq_in 17 x4 (zq_lt (vp_updL u (Int32.toNatClampNeg x4) 1) (fun u24 =>
  f_X4_odds_L52 q9 (x4 + 1) u24))) else (
  zq_in 17 x4 (zq_lt (vp_updL u (Int32.toNatClampNeg x4) 0) (fun u22 =>
  f_X4_odds_L52 q9 (x4 + 1) u22))))
def f_X4_odds_L88 (g : zS) (x1 : Int32) : Nat → Int64 → Int32 → zJ → Option (Int64 × zJ)
  | 0, _, _, _ => none
  | q9 + 1, x4, x6, u =>
  if (g 2 0) ≤ x6 then (
  some (x4, u)) else (
  zq_rd (g 9) 16 x6 (fun v28 =>
  zq_rd (g 7) 4 v28 (fun v30 =>
  if v30 = 0 then (
  zq_rd (g 4) 4 v28 (fun v33 =>
  zq_rd (g 17) 15 x1 (fun v35 =>
  zq_b1 (f_X4_levelsLit v33 v35) (fun r38 =>
  zq_b1 (f_X4_addsLamp u r38) (fun u40 =>
  f_X4_odds_L88 g x1 q9 (x4 * 10) (x6 + 1) u40))))) else (
  f_X4_odds_L88 g x1 q9 x4 (x6 + 1) u))))
def f_X4_odds_L156 (u : zJ) : Nat → Int64 → Int32 → Option (Int64)
  | 0, _, _ => none
  | q9 + 1, x6, x8 =>
  if 17 ≤ x8 then (
  some x6) else (
  zq_rd u 17 x8 (fun v45 =>
  f_X4_odds_L156 u q9 (x6 + v45) (x8 + 1)))
def f_X4_odds (g : zS) (u : zJ) (x1 : Int32) (x2 : Int32) (x3 : Int32) : Option (Int64 × zS × zJ) :=
  zq_b1 (f_X4_in (Int32.toInt64 x1) 0 14) (fun r2 =>
  if r2 = 0 then (
  zq_b1 (f_X4_lost) (fun r5 =>
  some (r5, g, u))) else (
  zq_b1 (f_X4_in (Int32.toInt64 x2) 0 16) (fun r7 =>
  if r7 = 0 then (
  zq_b1 (f_X4_lost) (fun r10 =>
  some (r10, g, u))) else (
  zq_b1 (f_X4_in (Int32.toInt64 x3) 0 1) (fun r12 =>
  if r12 = 0 then (
  zq_b1 (f_X4_lost) (fun r15 =>
  some (r15, g, u))) else (
  if (g 1 0) = 0 then (
  zq_b1 (f_X4_lost) (fun r52 =>
  some (r52, g, u))) else (
  zq_b1 (f_X4_frames g) (fun g18 =>
  zq_b1 (f_X4_odds_L52 100 0 u) (fun u26 =>
  zq_b2 (f_X4_odds_L88 g18 x1 100 1 0 u26) (fun y42 u43 =>
  zq_b1 (f_X4_odds_L156 u43 100 0 x2) (fun y48 =>
  zq_b1 (f_X4_share y48 y42 x3) (fun r50 =>
  some (r50, g18, u43)))))))))))))
set_option maxHeartbeats 4000000 in
set_option maxRecDepth 100000 in
theorem w_X4_odds_L52 {l : Launch} {p : Program} {e : Env} {s9 : State} {m9 : MethodId} {ag : Array Value} {below : List Frame} {meth : Method} {c : Code} {A : Nat → Prop} {Q : State → Prop} {D : va_G} {ad : Nat → Nat} {cy : Nat → ClassId} {g : zS} {x1 : Int32} {x2 : Int32} {x3 : Int32} (C0 : zCx p s9 m9 ag c cX4_odds 9 RX4 D cy A)  {uo : zJ} (e0 : ∀ (H : Heap) (locs : List Loc) (ls : Array Slot), va_P D vwCl (wdM ad cy g uo) H → va_D A (wdM ad cy g uo) → va_S A s9.heap H locs → lv_has ls 9 [(0, .ref (ad 0)), (1, .int x1), (2, .int x2), (3, .int x3)] → W p l e { frames := 2, cells := 0, slots := 0, locals := 44 } s9 m9 ag below meth c H locs 0 0 Q (F0 m9 82 ls [])) : ∀ (q9 : Nat) (x4 : Int32) (u : zJ), f_X4_odds_L52 q9 x4 u = some uo → ∀ (H : Heap) (locs : List Loc) (ls : Array Slot), va_P D vwCl (wdM ad cy g u) H → va_D A (wdM ad cy g u) → va_S A s9.heap H locs → lv_has ls 9 [(0, .ref (ad 0)), (1, .int x1), (2, .int x2), (3, .int x3), (4, .int x4)] → W p l e { frames := 2, cells := 0, slots := 0, locals := 44 } s9 m9 ag below meth c H locs 0 0 Q (F0 m9 52 ls []) := by
  obtain ⟨hx, hb, hml, hown, hts⟩ := id C0.1
  intro q9
  induction q9 with
  | zero =>
    intro x4 u hf
    rw [f_X4_odds_L52] at hf
    cases hf
  | succ q9 ih =>
    intro x4 u hf H locs ls hP hD hS hl
    rw [f_X4_odds_L52] at hf
    refine lv_iload hx hb dX4_odds_52 (lv_at hl 4 rfl) ?_
    refine lv_bipush (v := 17) hx hb dX4_odds_54 (by decide) ?_
    refine lv_icmp_ge (tgt := 82) hx hb dX4_odds_56 (by decide) (fun c19 => ?_) (fun c19 => ?_)
    · have hf := it_t c19 hf
      obtain rfl := Option.some.inj hf
      exact e0 _ _ _ hP hD hS (lv_sub hl [0, 1, 2, 3] rfl)
    · have hf := it_f c19 hf
      refine lv_aload_n hx hb dX4_odds_59 rfl (lv_at hl 0 rfl) ?_
      refine gf_X4_58 C0 hP 0 wdM_0 rfl dX4_odds_60 ?_
      refine lv_iload hx hb dX4_odds_63 (lv_at hl 4 rfl) ?_
      refine lv_iload hx hb dX4_odds_65 (lv_at hl 4 rfl) ?_
      refine lv_if_ne (tgt := 74) hx hb dX4_odds_67 (by decide) (fun c20 => ?_) (fun c20 => ?_)
      · have hf := it_f c20 hf
        refine lv_lconst (v := 0) hx hb dX4_odds_74 (by decide) ?_
        obtain ⟨h21, hf⟩ := zq_in_s hf
        obtain ⟨u22, eu22, hf⟩ := zq_lt_s hf
        refine zls (ws' := (wdM ad cy g u22)) C0 hP hD hS 17 wdM_17 h21 (by rw [eu22]; rfl) dX4_odds_75 (fun H locs hP hD hS => ?_)
        refine lv_iinc (v := (x4 + 1)) (lv' := [(4, .int (x4 + 1)), (0, .ref (ad 0)), (1, .int x1), (2, .int x2), (3, .int x3)]) hx hb dX4_odds_76 hl (k := 4) rfl rfl (by decide) rfl (fun ls hl => ?_)
        refine lv_goto (tgt := 52) hx hb dX4_odds_79 (by decide) ?_
        exact ih (x4 + 1) u22 hf _ _ _ hP hD hS (lv_sub hl [1, 2, 3, 4, 0] rfl)
      · have hf := it_t c20 hf
        refine lv_lconst (v := 1) hx hb dX4_odds_70 (by decide) ?_
        refine lv_goto (tgt := 75) hx hb dX4_odds_71 (by decide) ?_
        obtain ⟨h23, hf⟩ := zq_in_s hf
        obtain ⟨u24, eu24, hf⟩ := zq_lt_s hf
        refine zls (ws' := (wdM ad cy g u24)) C0 hP hD hS 17 wdM_17 h23 (by rw [eu24]; rfl) dX4_odds_75 (fun H locs hP hD hS => ?_)
        refine lv_iinc (v := (x4 + 1)) (lv' := [(4, .int (x4 + 1)), (0, .ref (ad 0)), (1, .int x1), (2, .int x2), (3, .int x3)]) hx hb dX4_odds_76 hl (k := 4) rfl rfl (by decide) rfl (fun ls hl => ?_)
        refine lv_goto (tgt := 52) hx hb dX4_odds_79 (by decide) ?_
        exact ih (x4 + 1) u24 hf _ _ _ hP hD hS (lv_sub hl [1, 2, 3, 4, 0] rfl)
set_option maxHeartbeats 4000000 in
set_option maxRecDepth 100000 in
theorem w_X4_odds_L88 {l : Launch} {p : Program} {e : Env} {s9 : State} {m9 : MethodId} {ag : Array Value} {below : List Frame} {meth : Method} {c : Code} {A : Nat → Prop} {Q : State → Prop} {D : va_G} {ad : Nat → Nat} {cy : Nat → ClassId} {g : zS} {x1 : Int32} {x2 : Int32} {x3 : Int32} (C0 : zCx p s9 m9 ag c cX4_odds 9 RX4 D cy A)  {o4 : Int64} {uo : zJ} (e0 : ∀ (H : Heap) (locs : List Loc) (ls : Array Slot), va_P D vwCl (wdM ad cy g uo) H → va_D A (wdM ad cy g uo) → va_S A s9.heap H locs → lv_has ls 9 [(0, .ref (ad 0)), (2, .int x2), (3, .int x3), (4, .long o4)] → W p l e { frames := 2, cells := 0, slots := 0, locals := 44 } s9 m9 ag below meth c H locs 0 0 Q (F0 m9 150 ls [])) : ∀ (q9 : Nat) (x4 : Int64) (x6 : Int32) (u : zJ), f_X4_odds_L88 g x1 q9 x4 x6 u = some (o4, uo) → ∀ (H : Heap) (locs : List Loc) (ls : Array Slot), va_P D vwCl (wdM ad cy g u) H → va_D A (wdM ad cy g u) → va_S A s9.heap H locs → lv_has ls 9 [(0, .ref (ad 0)), (1, .int x1), (2, .int x2), (3, .int x3), (4, .long x4), (6, .int x6)] → W p l e { frames := 2, cells := 0, slots := 0, locals := 44 } s9 m9 ag below meth c H locs 0 0 Q (F0 m9 88 ls []) := by
  obtain ⟨hx, hb, hml, hown, hts⟩ := id C0.1
  intro q9
  induction q9 with
  | zero =>
    intro x4 x6 u hf
    rw [f_X4_odds_L88] at hf
    cases hf
  | succ q9 ih =>
    intro x4 x6 u hf H locs ls hP hD hS hl
    rw [f_X4_odds_L88] at hf
    refine lv_iload hx hb dX4_odds_88 (lv_at hl 5 rfl) ?_
    refine lv_aload_n hx hb dX4_odds_90 rfl (lv_at hl 0 rfl) ?_
    refine gf_X4_91 C0 hP 0 wdM_0 rfl dX4_odds_91 ?_
    refine lv_icmp_ge (tgt := 150) hx hb dX4_odds_94 (by decide) (fun c27 => ?_) (fun c27 => ?_)
    · have hf := it_t c27 hf
      obtain ⟨rfl, rfl⟩ := zq_j2 hf
      exact e0 _ _ _ hP hD hS (lv_sub hl [0, 2, 3, 4] rfl)
    · have hf := it_f c27 hf
      refine lv_aload_n hx hb dX4_odds_97 rfl (lv_at hl 0 rfl) ?_
      refine gf_X4_25 C0 hP 0 wdM_0 rfl dX4_odds_98 ?_
      refine lv_iload hx hb dX4_odds_101 (lv_at hl 5 rfl) ?_
      obtain ⟨v28, ev28, h29, hf⟩ := zq_rd_s hf
      refine zia C0 hP 6 wdM_6 ev28 h29 dX4_odds_103 ?_
      refine lv_istore (lv' := [(7, .int v28), (0, .ref (ad 0)), (1, .int x1), (2, .int x2), (3, .int x3), (4, .long x4), (6, .int x6)]) hx hb dX4_odds_104 hl (by decide) rfl (fun ls hl => ?_)
      refine lv_aload_n hx hb dX4_odds_106 rfl (lv_at hl 1 rfl) ?_
      refine gf_X4_19 C0 hP 0 wdM_0 rfl dX4_odds_107 ?_
      refine lv_iload hx hb dX4_odds_110 (lv_at hl 0 rfl) ?_
      obtain ⟨v30, ev30, h31, hf⟩ := zq_rd_s hf
      refine zia C0 hP 4 wdM_4 ev30 h31 dX4_odds_112 ?_
      refine lv_if_ne (tgt := 144) hx hb dX4_odds_113 (by decide) (fun c32 => ?_) (fun c32 => ?_)
      · have hf := it_f c32 hf
        refine lv_iinc (v := (x6 + 1)) (lv' := [(6, .int (x6 + 1)), (7, .int v28), (0, .ref (ad 0)), (1, .int x1), (2, .int x2), (3, .int x3), (4, .long x4)]) hx hb dX4_odds_144 hl (k := 6) rfl rfl (by decide) rfl (fun ls hl => ?_)
        refine lv_goto (tgt := 88) hx hb dX4_odds_147 (by decide) ?_
        exact ih x4 (x6 + 1) u hf _ _ _ hP hD hS (lv_sub hl [2, 3, 4, 5, 6, 0] rfl)
      · have hf := it_t c32 hf
        refine lv_aload_n hx hb dX4_odds_116 rfl (lv_at hl 1 rfl) ?_
        refine lv_aload_n hx hb dX4_odds_117 rfl (lv_at hl 1 rfl) ?_
        refine gf_X4_7 C0 hP 0 wdM_0 rfl dX4_odds_118 ?_
        refine lv_iload hx hb dX4_odds_121 (lv_at hl 0 rfl) ?_
        obtain ⟨v33, ev33, h34, hf⟩ := zq_rd_s hf
        refine zia C0 hP 1 wdM_1 ev33 h34 dX4_odds_123 ?_
        refine lv_aload_n hx hb dX4_odds_124 rfl (lv_at hl 1 rfl) ?_
        refine gf_X4_37 C0 hP 0 wdM_0 rfl dX4_odds_125 ?_
        refine lv_iload_n hx hb dX4_odds_128 rfl (lv_at hl 2 rfl) ?_
        obtain ⟨v35, ev35, h36, hf⟩ := zq_rd_s hf
        refine zia C0 hP 10 wdM_10 ev35 h36 dX4_odds_129 ?_
        obtain ⟨r38, hc37, hf⟩ := zq_b1_s hf
        refine zSI (ws' := (wdM ad cy g u)) (rest := [.ref (ad 0)]) C0 (fun _ h => h) zF.nil (c_X4_levelsLit hc37) hP hD hS my_X4_levelsLit kl_X4_258 ⟨rfl, rfl⟩ ⟨Nat.le_of_ble_eq_true rfl, Nat.le_of_ble_eq_true rfl⟩ rfl hl.1 rfl (Nat.le_of_ble_eq_true rfl) dX4_odds_130 ⟨Nat.zero_le _, Nat.zero_le _⟩ (fun H locs hP hD hS => ?_)
        obtain ⟨u40, hc39, hf⟩ := zq_b1_s hf
        refine zVV (ws' := (wdM ad cy g u40)) (rest := []) C0 (fun _ h => h) zF.id (c_X4_addsLamp hc39) hP hD hS my_X4_addsLamp kl_X4_261 ⟨rfl, rfl⟩ ⟨Nat.le_of_ble_eq_true rfl, Nat.le_of_ble_eq_true rfl⟩ (q0 := 0) (ci := 4) rfl wdM_0 rfl hl.1 rfl (Nat.le_of_ble_eq_true rfl) dX4_odds_133 ⟨Nat.zero_le _, Nat.zero_le _⟩ (fun H locs hP hD hS => ?_)
        refine lv_lload hx hb dX4_odds_136 (lv_at hl 5 rfl) ?_
        refine lv_ldc2 hx hb hown (hts _ kc_X4_243) dX4_odds_138 ?_
        refine lv_lmul hx hb dX4_odds_141 ?_
        refine lv_lstore (lv' := [(4, .long (x4 * 10)), (7, .int v28), (0, .ref (ad 0)), (1, .int x1), (2, .int x2), (3, .int x3), (6, .int x6)]) hx hb dX4_odds_142 hl (by decide) rfl (fun ls hl => ?_)
        refine lv_iinc (v := (x6 + 1)) (lv' := [(6, .int (x6 + 1)), (4, .long (x4 * 10)), (7, .int v28), (0, .ref (ad 0)), (1, .int x1), (2, .int x2), (3, .int x3)]) hx hb dX4_odds_144 hl (k := 6) rfl rfl (by decide) rfl (fun ls hl => ?_)
        refine lv_goto (tgt := 88) hx hb dX4_odds_147 (by decide) ?_
        exact ih (x4 * 10) (x6 + 1) u40 hf _ _ _ hP hD hS (lv_sub hl [3, 4, 5, 6, 1, 0] rfl)
set_option maxHeartbeats 4000000 in
set_option maxRecDepth 100000 in
theorem w_X4_odds_L156 {l : Launch} {p : Program} {e : Env} {s9 : State} {m9 : MethodId} {ag : Array Value} {below : List Frame} {meth : Method} {c : Code} {A : Nat → Prop} {Q : State → Prop} {D : va_G} {ad : Nat → Nat} {cy : Nat → ClassId} {g : zS} {u : zJ} {x3 : Int32} {x4 : Int64} (C0 : zCx p s9 m9 ag c cX4_odds 9 RX4 D cy A)  {o6 : Int64} (e0 : ∀ (H : Heap) (locs : List Loc) (ls : Array Slot), va_P D vwCl (wdM ad cy g u) H → va_D A (wdM ad cy g u) → va_S A s9.heap H locs → lv_has ls 9 [(3, .int x3), (4, .long x4), (6, .long o6)] → W p l e { frames := 2, cells := 0, slots := 0, locals := 44 } s9 m9 ag below meth c H locs 0 0 Q (F0 m9 181 ls [])) : ∀ (q9 : Nat) (x6 : Int64) (x8 : Int32), f_X4_odds_L156 u q9 x6 x8 = some o6 → ∀ (H : Heap) (locs : List Loc) (ls : Array Slot), va_P D vwCl (wdM ad cy g u) H → va_D A (wdM ad cy g u) → va_S A s9.heap H locs → lv_has ls 9 [(0, .ref (ad 0)), (3, .int x3), (4, .long x4), (6, .long x6), (8, .int x8)] → W p l e { frames := 2, cells := 0, slots := 0, locals := 44 } s9 m9 ag below meth c H locs 0 0 Q (F0 m9 156 ls []) := by
  obtain ⟨hx, hb, hml, hown, hts⟩ := id C0.1
  intro q9
  induction q9 with
  | zero =>
    intro x6 x8 hf
    rw [f_X4_odds_L156] at hf
    cases hf
  | succ q9 ih =>
    intro x6 x8 hf H locs ls hP hD hS hl
    rw [f_X4_odds_L156] at hf
    refine lv_iload hx hb dX4_odds_156 (lv_at hl 4 rfl) ?_
    refine lv_bipush (v := 17) hx hb dX4_odds_158 (by decide) ?_
    refine lv_icmp_ge (tgt := 181) hx hb dX4_odds_160 (by decide) (fun c44 => ?_) (fun c44 => ?_)
    · have hf := it_t c44 hf
      obtain rfl := Option.some.inj hf
      exact e0 _ _ _ hP hD hS (lv_sub hl [1, 2, 3] rfl)
    · have hf := it_f c44 hf
      refine lv_lload hx hb dX4_odds_163 (lv_at hl 3 rfl) ?_
      refine lv_aload_n hx hb dX4_odds_165 rfl (lv_at hl 0 rfl) ?_
      refine gf_X4_58 C0 hP 0 wdM_0 rfl dX4_odds_166 ?_
      refine lv_iload hx hb dX4_odds_169 (lv_at hl 4 rfl) ?_
      obtain ⟨v45, ev45, h46, hf⟩ := zq_rd_s hf
      refine zla C0 hP 17 wdM_17 ev45 h46 dX4_odds_171 ?_
      refine lv_ladd hx hb dX4_odds_172 ?_
      refine lv_lstore (lv' := [(6, .long (x6 + v45)), (0, .ref (ad 0)), (3, .int x3), (4, .long x4), (8, .int x8)]) hx hb dX4_odds_173 hl (by decide) rfl (fun ls hl => ?_)
      refine lv_iinc (v := (x8 + 1)) (lv' := [(8, .int (x8 + 1)), (6, .long (x6 + v45)), (0, .ref (ad 0)), (3, .int x3), (4, .long x4)]) hx hb dX4_odds_175 hl (k := 4) rfl rfl (by decide) rfl (fun ls hl => ?_)
      refine lv_goto (tgt := 156) hx hb dX4_odds_178 (by decide) ?_
      exact ih (x6 + v45) (x8 + 1) hf _ _ _ hP hD hS (lv_sub hl [2, 3, 4, 1, 0] rfl)
set_option maxHeartbeats 4000000 in
set_option maxRecDepth 100000 in
theorem c_X4_odds {l : Launch} {D : va_G} {ad : Nat → Nat} {cy : Nat → ClassId} {g : zS} {u : zJ} {x1 : Int32} {x2 : Int32} {x3 : Int32} {r0 : Int64} {g' : zS} {u' : zJ} (hf : f_X4_odds g u x1 x2 x3 = some (r0, g', u')) : zML l yX4_odds (zW yX4_odds cX4_odds 9 (some .long)) { frames := 2, cells := 0, slots := 0, locals := 44 } D cy [.ref (ad 0), .int x1, .int x2, .int x3] (wdM ad cy g u) r0 (wdM ad cy g' u') := by
  unfold f_X4_odds at hf
  refine zEL (by decide) (Nat.le_of_ble_eq_true rfl) ?_
  intro p e s9 m9 below meth c A Q C0 hret ls hl hP hD
  have hl : lv_has ls 9 [(0, .ref (ad 0)), (1, .int x1), (2, .int x2), (3, .int x3)] := hl
  have hS : va_S A s9.heap s9.heap [] := va_S.rf
  obtain ⟨hx, hb, hml, hown, hts⟩ := id C0.1
  refine lv_iload_n hx hb dX4_odds_0 rfl (lv_at hl 1 rfl) ?_
  refine lv_i2l hx hb dX4_odds_1 rfl ?_
  refine lv_lconst (v := 0) hx hb dX4_odds_2 (by decide) ?_
  refine lv_ldc2 hx hb hown (hts _ kc_X4_188) dX4_odds_3 ?_
  obtain ⟨r2, hc1, hf⟩ := zq_b1_s hf
  refine zSI (ws' := (wdM ad cy g u)) (rest := []) C0 (fun _ h => h) zF.nil (c_X4_in hc1) hP hD hS my_X4_in kl_X4_87 ⟨rfl, rfl⟩ ⟨Nat.le_of_ble_eq_true rfl, Nat.le_of_ble_eq_true rfl⟩ rfl hl.1 rfl (Nat.le_of_ble_eq_true rfl) dX4_odds_6 ⟨Nat.zero_le _, Nat.zero_le _⟩ (fun H locs hP hD hS => ?_)
  refine lv_if_eq (tgt := 41) hx hb dX4_odds_9 (by decide) (fun c3 => ?_) (fun c3 => ?_)
  · have hf := it_t c3 hf
    obtain ⟨r5, hc4, hf⟩ := zq_b1_s hf
    refine zSL (ws' := (wdM ad cy g u)) (rest := []) C0 (fun _ h => h) zF.nil (c_X4_lost hc4) hP hD hS my_X4_lost kl_X4_80 ⟨rfl, rfl⟩ ⟨Nat.le_of_ble_eq_true rfl, Nat.le_of_ble_eq_true rfl⟩ rfl hl.1 rfl (Nat.le_of_ble_eq_true rfl) dX4_odds_41 ⟨Nat.zero_le _, Nat.zero_le _⟩ (fun H locs hP hD hS => ?_)
    obtain ⟨rfl, rfl, rfl⟩ := zq_j3 hf
    exact hret _ _ _ _ dX4_odds_44 hP hD hS
  · have hf := it_f c3 hf
    refine lv_iload_n hx hb dX4_odds_12 rfl (lv_at hl 2 rfl) ?_
    refine lv_i2l hx hb dX4_odds_13 rfl ?_
    refine lv_lconst (v := 0) hx hb dX4_odds_14 (by decide) ?_
    refine lv_ldc2 hx hb hown (hts _ kc_X4_208) dX4_odds_15 ?_
    obtain ⟨r7, hc6, hf⟩ := zq_b1_s hf
    refine zSI (ws' := (wdM ad cy g u)) (rest := []) C0 (fun _ h => h) zF.nil (c_X4_in hc6) hP hD hS my_X4_in kl_X4_87 ⟨rfl, rfl⟩ ⟨Nat.le_of_ble_eq_true rfl, Nat.le_of_ble_eq_true rfl⟩ rfl hl.1 rfl (Nat.le_of_ble_eq_true rfl) dX4_odds_18 ⟨Nat.zero_le _, Nat.zero_le _⟩ (fun H locs hP hD hS => ?_)
    refine lv_if_eq (tgt := 41) hx hb dX4_odds_21 (by decide) (fun c8 => ?_) (fun c8 => ?_)
    · have hf := it_t c8 hf
      obtain ⟨r10, hc9, hf⟩ := zq_b1_s hf
      refine zSL (ws' := (wdM ad cy g u)) (rest := []) C0 (fun _ h => h) zF.nil (c_X4_lost hc9) hP hD hS my_X4_lost kl_X4_80 ⟨rfl, rfl⟩ ⟨Nat.le_of_ble_eq_true rfl, Nat.le_of_ble_eq_true rfl⟩ rfl hl.1 rfl (Nat.le_of_ble_eq_true rfl) dX4_odds_41 ⟨Nat.zero_le _, Nat.zero_le _⟩ (fun H locs hP hD hS => ?_)
      obtain ⟨rfl, rfl, rfl⟩ := zq_j3 hf
      exact hret _ _ _ _ dX4_odds_44 hP hD hS
    · have hf := it_f c8 hf
      refine lv_iload_n hx hb dX4_odds_24 rfl (lv_at hl 3 rfl) ?_
      refine lv_i2l hx hb dX4_odds_25 rfl ?_
      refine lv_lconst (v := 0) hx hb dX4_odds_26 (by decide) ?_
      refine lv_lconst (v := 1) hx hb dX4_odds_27 (by decide) ?_
      obtain ⟨r12, hc11, hf⟩ := zq_b1_s hf
      refine zSI (ws' := (wdM ad cy g u)) (rest := []) C0 (fun _ h => h) zF.nil (c_X4_in hc11) hP hD hS my_X4_in kl_X4_87 ⟨rfl, rfl⟩ ⟨Nat.le_of_ble_eq_true rfl, Nat.le_of_ble_eq_true rfl⟩ rfl hl.1 rfl (Nat.le_of_ble_eq_true rfl) dX4_odds_28 ⟨Nat.zero_le _, Nat.zero_le _⟩ (fun H locs hP hD hS => ?_)
      refine lv_if_eq (tgt := 41) hx hb dX4_odds_31 (by decide) (fun c13 => ?_) (fun c13 => ?_)
      · have hf := it_t c13 hf
        obtain ⟨r15, hc14, hf⟩ := zq_b1_s hf
        refine zSL (ws' := (wdM ad cy g u)) (rest := []) C0 (fun _ h => h) zF.nil (c_X4_lost hc14) hP hD hS my_X4_lost kl_X4_80 ⟨rfl, rfl⟩ ⟨Nat.le_of_ble_eq_true rfl, Nat.le_of_ble_eq_true rfl⟩ rfl hl.1 rfl (Nat.le_of_ble_eq_true rfl) dX4_odds_41 ⟨Nat.zero_le _, Nat.zero_le _⟩ (fun H locs hP hD hS => ?_)
        obtain ⟨rfl, rfl, rfl⟩ := zq_j3 hf
        exact hret _ _ _ _ dX4_odds_44 hP hD hS
      · have hf := it_f c13 hf
        refine lv_aload_n hx hb dX4_odds_34 rfl (lv_at hl 0 rfl) ?_
        refine gf_X4_84 C0 hP 0 wdM_0 rfl dX4_odds_35 ?_
        refine lv_if_ne (tgt := 45) hx hb dX4_odds_38 (by decide) (fun c16 => ?_) (fun c16 => ?_)
        · have hf := it_f c16 hf
          refine lv_aload_n hx hb dX4_odds_45 rfl (lv_at hl 0 rfl) ?_
          obtain ⟨g18, hc17, hf⟩ := zq_b1_s hf
          refine zVV (ws' := (wdM ad cy g18 u)) (rest := []) C0 (fun _ h => h) zF.id (c_X4_frames hc17) hP hD hS my_X4_frames kl_X4_162 ⟨rfl, rfl⟩ ⟨Nat.le_of_ble_eq_true rfl, Nat.le_of_ble_eq_true rfl⟩ (q0 := 0) (ci := 4) rfl wdM_0 rfl hl.1 rfl (Nat.le_of_ble_eq_true rfl) dX4_odds_46 ⟨Nat.zero_le _, Nat.zero_le _⟩ (fun H locs hP hD hS => ?_)
          refine lv_iconst (v := 0) hx hb dX4_odds_49 (by decide) ?_
          refine lv_istore (lv' := [(4, .int 0), (0, .ref (ad 0)), (1, .int x1), (2, .int x2), (3, .int x3)]) hx hb dX4_odds_50 hl (by decide) rfl (fun ls hl => ?_)
          obtain ⟨u26, hL25, hf⟩ := zq_b1_s hf
          refine w_X4_odds_L52 C0 (fun H locs ls hP hD hS hl => ?_) 100 0 u hL25 _ _ _ hP hD hS (lv_sub hl [1, 2, 3, 4, 0] rfl)
          refine lv_lconst (v := 1) hx hb dX4_odds_82 (by decide) ?_
          refine lv_lstore (lv' := [(4, .long 1), (0, .ref (ad 0)), (1, .int x1), (2, .int x2), (3, .int x3)]) hx hb dX4_odds_83 hl (by decide) rfl (fun ls hl => ?_)
          refine lv_iconst (v := 0) hx hb dX4_odds_85 (by decide) ?_
          refine lv_istore (lv' := [(6, .int 0), (4, .long 1), (0, .ref (ad 0)), (1, .int x1), (2, .int x2), (3, .int x3)]) hx hb dX4_odds_86 hl (by decide) rfl (fun ls hl => ?_)
          obtain ⟨y42, u43, hL41, hf⟩ := zq_b2_s hf
          refine w_X4_odds_L88 C0 (fun H locs ls hP hD hS hl => ?_) 100 1 0 u26 hL41 _ _ _ hP hD hS (lv_sub hl [2, 3, 4, 5, 1, 0] rfl)
          refine lv_lconst (v := 0) hx hb dX4_odds_150 (by decide) ?_
          refine lv_lstore (lv' := [(6, .long 0), (0, .ref (ad 0)), (2, .int x2), (3, .int x3), (4, .long y42)]) hx hb dX4_odds_151 hl (by decide) rfl (fun ls hl => ?_)
          refine lv_iload_n hx hb dX4_odds_153 rfl (lv_at hl 2 rfl) ?_
          refine lv_istore (lv' := [(8, .int x2), (6, .long 0), (0, .ref (ad 0)), (2, .int x2), (3, .int x3), (4, .long y42)]) hx hb dX4_odds_154 hl (by decide) rfl (fun ls hl => ?_)
          obtain ⟨y48, hL47, hf⟩ := zq_b1_s hf
          refine w_X4_odds_L156 C0 (fun H locs ls hP hD hS hl => ?_) 100 0 x2 hL47 _ _ _ hP hD hS (lv_sub hl [2, 4, 5, 1, 0] rfl)
          refine lv_lload hx hb dX4_odds_181 (lv_at hl 2 rfl) ?_
          refine lv_lload hx hb dX4_odds_183 (lv_at hl 1 rfl) ?_
          refine lv_iload_n hx hb dX4_odds_185 rfl (lv_at hl 0 rfl) ?_
          obtain ⟨r50, hc49, hf⟩ := zq_b1_s hf
          refine zSL (ws' := (wdM ad cy g18 u43)) (rest := []) C0 (fun _ h => h) zF.nil (c_X4_share hc49) hP hD hS my_X4_share kl_X4_265 ⟨rfl, rfl⟩ ⟨Nat.le_of_ble_eq_true rfl, Nat.le_of_ble_eq_true rfl⟩ rfl hl.1 rfl (Nat.le_of_ble_eq_true rfl) dX4_odds_186 ⟨Nat.zero_le _, Nat.zero_le _⟩ (fun H locs hP hD hS => ?_)
          obtain ⟨rfl, rfl, rfl⟩ := zq_j3 hf
          exact hret _ _ _ _ dX4_odds_189 hP hD hS
        · have hf := it_t c16 hf
          obtain ⟨r52, hc51, hf⟩ := zq_b1_s hf
          refine zSL (ws' := (wdM ad cy g u)) (rest := []) C0 (fun _ h => h) zF.nil (c_X4_lost hc51) hP hD hS my_X4_lost kl_X4_80 ⟨rfl, rfl⟩ ⟨Nat.le_of_ble_eq_true rfl, Nat.le_of_ble_eq_true rfl⟩ rfl hl.1 rfl (Nat.le_of_ble_eq_true rfl) dX4_odds_41 ⟨Nat.zero_le _, Nat.zero_le _⟩ (fun H locs hP hD hS => ?_)
          obtain ⟨rfl, rfl, rfl⟩ := zq_j3 hf
          exact hret _ _ _ _ dX4_odds_44 hP hD hS

def f_X4_sheet_L65 (x1 : Int32) (x3 : Int32) : Nat → Int32 → zS → Option (zS)
  | 0, _, _ => none
  | q9 + 1, x4, g =>
  if x3 ≤ x4 then (
  some g) else (
  zq_in 240 ((60 * x1) + x4) (zq_lt (va_up g 28 (upd (g 28) (Int32.toNatClampNeg ((60 * x1) + x4)) 0)) (fun g18 =>
  f_X4_sheet_L65 x1 x3 q9 (x4 + 1) g18)))
def f_X4_sheet (g : zS) (x1 : Int32) (x2 : Int32) (x3 : Int32) : Option (Int32 × zS) :=
  zq_b1 (f_X4_noSheet x1) (fun r2 =>
  if r2 = 0 then (
  zq_b1 (f_X4_in (Int32.toInt64 x2) 0 2) (fun r5 =>
  if r5 = 0 then (
  zq_b2 (f_X4_refused g (-2)) (fun r8 g9 =>
  some (r8, g9))) else (
  if x3 ≤ 60 then (
  if 0 ≤ x3 then (
  zq_in 4 x1 (zq_lt (va_up g 26 (upd (g 26) (Int32.toNatClampNeg x1) x3)) (fun g13 =>
  zq_in 4 x1 (zq_lt (va_up g13 27 (upd (g13 27) (Int32.toNatClampNeg x1) x2)) (fun g15 =>
  zq_b1 (f_X4_sheet_L65 x1 x3 100 0 g15) (fun g20 =>
  zq_b2 (f_X4_refused g20 1) (fun r22 g23 =>
  some (r22, g23)))))))) else (
  zq_b2 (f_X4_failed g 4) (fun r25 g26 =>
  some (r25, g26)))) else (
  zq_b2 (f_X4_refused g (-2)) (fun r28 g29 =>
  some (r28, g29)))))) else (
  zq_b2 (f_X4_refused g (-1)) (fun r31 g32 =>
  some (r31, g32))))
set_option maxHeartbeats 4000000 in
set_option maxRecDepth 100000 in
theorem w_X4_sheet_L65 {l : Launch} {p : Program} {e : Env} {s9 : State} {m9 : MethodId} {ag : Array Value} {below : List Frame} {meth : Method} {c : Code} {A : Nat → Prop} {Q : State → Prop} {D : va_G} {ad : Nat → Nat} {cy : Nat → ClassId} {u : zJ} {x1 : Int32} {x3 : Int32} (C0 : zCx p s9 m9 ag c cX4_sheet 5 RX4 D cy A)  {go : zS} (e0 : ∀ (H : Heap) (locs : List Loc) (ls : Array Slot), va_P D vwCl (wdM ad cy go u) H → va_D A (wdM ad cy go u) → va_S A s9.heap H locs → lv_has ls 5 [(0, .ref (ad 0))] → W p l e { frames := 2, cells := 0, slots := 0, locals := 45 } s9 m9 ag below meth c H locs 0 0 Q (F0 m9 90 ls [])) : ∀ (q9 : Nat) (x4 : Int32) (g : zS), f_X4_sheet_L65 x1 x3 q9 x4 g = some go → ∀ (H : Heap) (locs : List Loc) (ls : Array Slot), va_P D vwCl (wdM ad cy g u) H → va_D A (wdM ad cy g u) → va_S A s9.heap H locs → lv_has ls 5 [(0, .ref (ad 0)), (1, .int x1), (3, .int x3), (4, .int x4)] → W p l e { frames := 2, cells := 0, slots := 0, locals := 45 } s9 m9 ag below meth c H locs 0 0 Q (F0 m9 65 ls []) := by
  obtain ⟨hx, hb, hml, hown, hts⟩ := id C0.1
  intro q9
  induction q9 with
  | zero =>
    intro x4 g hf
    rw [f_X4_sheet_L65] at hf
    cases hf
  | succ q9 ih =>
    intro x4 g hf H locs ls hP hD hS hl
    rw [f_X4_sheet_L65] at hf
    refine lv_iload hx hb dX4_sheet_65 (lv_at hl 3 rfl) ?_
    refine lv_iload_n hx hb dX4_sheet_67 rfl (lv_at hl 2 rfl) ?_
    refine lv_icmp_ge (tgt := 90) hx hb dX4_sheet_68 (by decide) (fun c16 => ?_) (fun c16 => ?_)
    · have hf := it_t c16 hf
      obtain rfl := Option.some.inj hf
      exact e0 _ _ _ hP hD hS (lv_sub hl [0] rfl)
    · have hf := it_f c16 hf
      refine lv_aload_n hx hb dX4_sheet_71 rfl (lv_at hl 0 rfl) ?_
      refine gf_X4_68 C0 hP 0 wdM_0 rfl dX4_sheet_72 ?_
      refine lv_bipush (v := 60) hx hb dX4_sheet_75 (by decide) ?_
      refine lv_iload_n hx hb dX4_sheet_77 rfl (lv_at hl 1 rfl) ?_
      refine lv_imul hx hb dX4_sheet_78 ?_
      refine lv_iload hx hb dX4_sheet_79 (lv_at hl 3 rfl) ?_
      refine lv_iadd hx hb dX4_sheet_81 ?_
      refine lv_iconst (v := 0) hx hb dX4_sheet_82 (by decide) ?_
      obtain ⟨h17, hf⟩ := zq_in_s hf
      obtain ⟨g18, eg18, hf⟩ := zq_lt_s hf
      refine zis (ws' := (wdM ad cy g18 u)) C0 hP hD hS 20 wdM_20 h17 (by rw [eg18]; rfl) dX4_sheet_83 (fun H locs hP hD hS => ?_)
      refine lv_iinc (v := (x4 + 1)) (lv' := [(4, .int (x4 + 1)), (0, .ref (ad 0)), (1, .int x1), (3, .int x3)]) hx hb dX4_sheet_84 hl (k := 3) rfl rfl (by decide) rfl (fun ls hl => ?_)
      refine lv_goto (tgt := 65) hx hb dX4_sheet_87 (by decide) ?_
      exact ih (x4 + 1) g18 hf _ _ _ hP hD hS (lv_sub hl [1, 2, 3, 0] rfl)
set_option maxHeartbeats 4000000 in
set_option maxRecDepth 100000 in
theorem c_X4_sheet {l : Launch} {D : va_G} {ad : Nat → Nat} {cy : Nat → ClassId} {g : zS} {u : zJ} {x1 : Int32} {x2 : Int32} {x3 : Int32} {r0 : Int32} {g' : zS} (hf : f_X4_sheet g x1 x2 x3 = some (r0, g')) : zMI l yX4_sheet (zW yX4_sheet cX4_sheet 5 (some .int)) { frames := 2, cells := 0, slots := 0, locals := 45 } D cy [.ref (ad 0), .int x1, .int x2, .int x3] (wdM ad cy g u) r0 (wdM ad cy g' u) := by
  unfold f_X4_sheet at hf
  refine zEI (ty := .int) (by decide) (Nat.le_of_ble_eq_true rfl) ?_
  intro p e s9 m9 below meth c A Q C0 hret ls hl hP hD
  have hl : lv_has ls 5 [(0, .ref (ad 0)), (1, .int x1), (2, .int x2), (3, .int x3)] := hl
  have hS : va_S A s9.heap s9.heap [] := va_S.rf
  obtain ⟨hx, hb, hml, hown, hts⟩ := id C0.1
  refine lv_iload_n hx hb dX4_sheet_0 rfl (lv_at hl 1 rfl) ?_
  obtain ⟨r2, hc1, hf⟩ := zq_b1_s hf
  refine zSI (ws' := (wdM ad cy g u)) (rest := []) C0 (fun _ h => h) zF.nil (c_X4_noSheet hc1) hP hD hS my_X4_noSheet kl_X4_128 ⟨rfl, rfl⟩ ⟨Nat.le_of_ble_eq_true rfl, Nat.le_of_ble_eq_true rfl⟩ rfl hl.1 rfl (Nat.le_of_ble_eq_true rfl) dX4_sheet_1 ⟨Nat.zero_le _, Nat.zero_le _⟩ (fun H locs hP hD hS => ?_)
  refine lv_if_eq (tgt := 13) hx hb dX4_sheet_4 (by decide) (fun c3 => ?_) (fun c3 => ?_)
  · have hf := it_t c3 hf
    refine lv_iload_n hx hb dX4_sheet_13 rfl (lv_at hl 2 rfl) ?_
    refine lv_i2l hx hb dX4_sheet_14 rfl ?_
    refine lv_lconst (v := 0) hx hb dX4_sheet_15 (by decide) ?_
    refine lv_ldc2 hx hb hown (hts _ kc_X4_135) dX4_sheet_16 ?_
    obtain ⟨r5, hc4, hf⟩ := zq_b1_s hf
    refine zSI (ws' := (wdM ad cy g u)) (rest := []) C0 (fun _ h => h) zF.nil (c_X4_in hc4) hP hD hS my_X4_in kl_X4_87 ⟨rfl, rfl⟩ ⟨Nat.le_of_ble_eq_true rfl, Nat.le_of_ble_eq_true rfl⟩ rfl hl.1 rfl (Nat.le_of_ble_eq_true rfl) dX4_sheet_19 ⟨Nat.zero_le _, Nat.zero_le _⟩ (fun H locs hP hD hS => ?_)
    refine lv_if_eq (tgt := 31) hx hb dX4_sheet_22 (by decide) (fun c6 => ?_) (fun c6 => ?_)
    · have hf := it_t c6 hf
      refine lv_aload_n hx hb dX4_sheet_31 rfl (lv_at hl 0 rfl) ?_
      refine lv_bipush (v := (-2)) hx hb dX4_sheet_32 (by decide) ?_
      obtain ⟨r8, g9, hc7, hf⟩ := zq_b2_s hf
      refine zVI (ws' := (wdM ad cy g9 u)) (rest := []) C0 (fun _ h => h) zF.id (c_X4_refused hc7) hP hD hS my_X4_refused kl_X4_132 ⟨rfl, rfl⟩ ⟨Nat.le_of_ble_eq_true rfl, Nat.le_of_ble_eq_true rfl⟩ (q0 := 0) (ci := 4) rfl wdM_0 rfl hl.1 rfl (Nat.le_of_ble_eq_true rfl) dX4_sheet_34 ⟨Nat.zero_le _, Nat.zero_le _⟩ (fun H locs hP hD hS => ?_)
      obtain ⟨rfl, rfl⟩ := zq_j2 hf
      exact hret _ _ _ _ rfl dX4_sheet_37 hP hD hS
    · have hf := it_f c6 hf
      refine lv_iload_n hx hb dX4_sheet_25 rfl (lv_at hl 3 rfl) ?_
      refine lv_bipush (v := 60) hx hb dX4_sheet_26 (by decide) ?_
      refine lv_icmp_le (tgt := 38) hx hb dX4_sheet_28 (by decide) (fun c10 => ?_) (fun c10 => ?_)
      · have hf := it_t c10 hf
        refine lv_iload_n hx hb dX4_sheet_38 rfl (lv_at hl 3 rfl) ?_
        refine lv_if_ge (tgt := 48) hx hb dX4_sheet_39 (by decide) (fun c11 => ?_) (fun c11 => ?_)
        · have hf := it_t c11 hf
          refine lv_aload_n hx hb dX4_sheet_48 rfl (lv_at hl 0 rfl) ?_
          refine gf_X4_62 C0 hP 0 wdM_0 rfl dX4_sheet_49 ?_
          refine lv_iload_n hx hb dX4_sheet_52 rfl (lv_at hl 1 rfl) ?_
          refine lv_iload_n hx hb dX4_sheet_53 rfl (lv_at hl 3 rfl) ?_
          obtain ⟨h12, hf⟩ := zq_in_s hf
          obtain ⟨g13, eg13, hf⟩ := zq_lt_s hf
          refine zis (ws' := (wdM ad cy g13 u)) C0 hP hD hS 18 wdM_18 h12 (by rw [eg13]; rfl) dX4_sheet_54 (fun H locs hP hD hS => ?_)
          refine lv_aload_n hx hb dX4_sheet_55 rfl (lv_at hl 0 rfl) ?_
          refine gf_X4_65 C0 hP 0 wdM_0 rfl dX4_sheet_56 ?_
          refine lv_iload_n hx hb dX4_sheet_59 rfl (lv_at hl 1 rfl) ?_
          refine lv_iload_n hx hb dX4_sheet_60 rfl (lv_at hl 2 rfl) ?_
          obtain ⟨h14, hf⟩ := zq_in_s hf
          obtain ⟨g15, eg15, hf⟩ := zq_lt_s hf
          refine zis (ws' := (wdM ad cy g15 u)) C0 hP hD hS 19 wdM_19 h14 (by rw [eg15]; rfl) dX4_sheet_61 (fun H locs hP hD hS => ?_)
          refine lv_iconst (v := 0) hx hb dX4_sheet_62 (by decide) ?_
          refine lv_istore (lv' := [(4, .int 0), (0, .ref (ad 0)), (1, .int x1), (2, .int x2), (3, .int x3)]) hx hb dX4_sheet_63 hl (by decide) rfl (fun ls hl => ?_)
          obtain ⟨g20, hL19, hf⟩ := zq_b1_s hf
          refine w_X4_sheet_L65 C0 (fun H locs ls hP hD hS hl => ?_) 100 0 g15 hL19 _ _ _ hP hD hS (lv_sub hl [1, 2, 4, 0] rfl)
          refine lv_aload_n hx hb dX4_sheet_90 rfl (lv_at hl 0 rfl) ?_
          refine lv_iconst (v := 1) hx hb dX4_sheet_91 (by decide) ?_
          obtain ⟨r22, g23, hc21, hf⟩ := zq_b2_s hf
          refine zVI (ws' := (wdM ad cy g23 u)) (rest := []) C0 (fun _ h => h) zF.id (c_X4_refused hc21) hP hD hS my_X4_refused kl_X4_132 ⟨rfl, rfl⟩ ⟨Nat.le_of_ble_eq_true rfl, Nat.le_of_ble_eq_true rfl⟩ (q0 := 0) (ci := 4) rfl wdM_0 rfl hl.1 rfl (Nat.le_of_ble_eq_true rfl) dX4_sheet_92 ⟨Nat.zero_le _, Nat.zero_le _⟩ (fun H locs hP hD hS => ?_)
          obtain ⟨rfl, rfl⟩ := zq_j2 hf
          exact hret _ _ _ _ rfl dX4_sheet_95 hP hD hS
        · have hf := it_f c11 hf
          refine lv_aload_n hx hb dX4_sheet_42 rfl (lv_at hl 0 rfl) ?_
          refine lv_iconst (v := 4) hx hb dX4_sheet_43 (by decide) ?_
          obtain ⟨r25, g26, hc24, hf⟩ := zq_b2_s hf
          refine zVI (ws' := (wdM ad cy g26 u)) (rest := []) C0 (fun _ h => h) zF.id (c_X4_failed hc24) hP hD hS my_X4_failed kl_X4_120 ⟨rfl, rfl⟩ ⟨Nat.le_of_ble_eq_true rfl, Nat.le_of_ble_eq_true rfl⟩ (q0 := 0) (ci := 4) rfl wdM_0 rfl hl.1 rfl (Nat.le_of_ble_eq_true rfl) dX4_sheet_44 ⟨Nat.zero_le _, Nat.zero_le _⟩ (fun H locs hP hD hS => ?_)
          obtain ⟨rfl, rfl⟩ := zq_j2 hf
          exact hret _ _ _ _ rfl dX4_sheet_47 hP hD hS
      · have hf := it_f c10 hf
        refine lv_aload_n hx hb dX4_sheet_31 rfl (lv_at hl 0 rfl) ?_
        refine lv_bipush (v := (-2)) hx hb dX4_sheet_32 (by decide) ?_
        obtain ⟨r28, g29, hc27, hf⟩ := zq_b2_s hf
        refine zVI (ws' := (wdM ad cy g29 u)) (rest := []) C0 (fun _ h => h) zF.id (c_X4_refused hc27) hP hD hS my_X4_refused kl_X4_132 ⟨rfl, rfl⟩ ⟨Nat.le_of_ble_eq_true rfl, Nat.le_of_ble_eq_true rfl⟩ (q0 := 0) (ci := 4) rfl wdM_0 rfl hl.1 rfl (Nat.le_of_ble_eq_true rfl) dX4_sheet_34 ⟨Nat.zero_le _, Nat.zero_le _⟩ (fun H locs hP hD hS => ?_)
        obtain ⟨rfl, rfl⟩ := zq_j2 hf
        exact hret _ _ _ _ rfl dX4_sheet_37 hP hD hS
  · have hf := it_f c3 hf
    refine lv_aload_n hx hb dX4_sheet_7 rfl (lv_at hl 0 rfl) ?_
    refine lv_iconst (v := (-1)) hx hb dX4_sheet_8 (by decide) ?_
    obtain ⟨r31, g32, hc30, hf⟩ := zq_b2_s hf
    refine zVI (ws' := (wdM ad cy g32 u)) (rest := []) C0 (fun _ h => h) zF.id (c_X4_refused hc30) hP hD hS my_X4_refused kl_X4_132 ⟨rfl, rfl⟩ ⟨Nat.le_of_ble_eq_true rfl, Nat.le_of_ble_eq_true rfl⟩ (q0 := 0) (ci := 4) rfl wdM_0 rfl hl.1 rfl (Nat.le_of_ble_eq_true rfl) dX4_sheet_9 ⟨Nat.zero_le _, Nat.zero_le _⟩ (fun H locs hP hD hS => ?_)
    obtain ⟨rfl, rfl⟩ := zq_j2 hf
    exact hret _ _ _ _ rfl dX4_sheet_12 hP hD hS

def f_X4_lose (g : zS) (x1 : Int32) : Option (Int32 × zS) :=
  zq_b1 (f_X4_noSheet x1) (fun r2 =>
  if r2 = 0 then (
  zq_rd (g 26) 4 x1 (fun v4 =>
  if 0 ≤ v4 then (
  zq_in 4 x1 (zq_lt (va_up g 26 (upd (g 26) (Int32.toNatClampNeg x1) (-1))) (fun g8 =>
  some (1, g8)))) else (
  zq_in 4 x1 (zq_lt (va_up g 26 (upd (g 26) (Int32.toNatClampNeg x1) (-1))) (fun g10 =>
  some (0, g10)))))) else (
  some ((-1), g)))
set_option maxHeartbeats 4000000 in
set_option maxRecDepth 100000 in
theorem c_X4_lose {l : Launch} {D : va_G} {ad : Nat → Nat} {cy : Nat → ClassId} {g : zS} {u : zJ} {x1 : Int32} {r0 : Int32} {g' : zS} (hf : f_X4_lose g x1 = some (r0, g')) : zMI l yX4_lose (zW yX4_lose cX4_lose 3 (some .int)) { frames := 2, cells := 0, slots := 0, locals := 45 } D cy [.ref (ad 0), .int x1] (wdM ad cy g u) r0 (wdM ad cy g' u) := by
  unfold f_X4_lose at hf
  refine zEI (ty := .int) (by decide) (Nat.le_of_ble_eq_true rfl) ?_
  intro p e s9 m9 below meth c A Q C0 hret ls hl hP hD
  have hl : lv_has ls 3 [(0, .ref (ad 0)), (1, .int x1)] := hl
  have hS : va_S A s9.heap s9.heap [] := va_S.rf
  obtain ⟨hx, hb, hml, hown, hts⟩ := id C0.1
  refine lv_iload_n hx hb dX4_lose_0 rfl (lv_at hl 1 rfl) ?_
  obtain ⟨r2, hc1, hf⟩ := zq_b1_s hf
  refine zSI (ws' := (wdM ad cy g u)) (rest := []) C0 (fun _ h => h) zF.nil (c_X4_noSheet hc1) hP hD hS my_X4_noSheet kl_X4_128 ⟨rfl, rfl⟩ ⟨Nat.le_of_ble_eq_true rfl, Nat.le_of_ble_eq_true rfl⟩ rfl hl.1 rfl (Nat.le_of_ble_eq_true rfl) dX4_lose_1 ⟨Nat.zero_le _, Nat.zero_le _⟩ (fun H locs hP hD hS => ?_)
  refine lv_if_eq (tgt := 9) hx hb dX4_lose_4 (by decide) (fun c3 => ?_) (fun c3 => ?_)
  · have hf := it_t c3 hf
    refine lv_aload_n hx hb dX4_lose_9 rfl (lv_at hl 0 rfl) ?_
    refine gf_X4_62 C0 hP 0 wdM_0 rfl dX4_lose_10 ?_
    refine lv_iload_n hx hb dX4_lose_13 rfl (lv_at hl 1 rfl) ?_
    obtain ⟨v4, ev4, h5, hf⟩ := zq_rd_s hf
    refine zia C0 hP 18 wdM_18 ev4 h5 dX4_lose_14 ?_
    refine lv_if_ge (tgt := 22) hx hb dX4_lose_15 (by decide) (fun c6 => ?_) (fun c6 => ?_)
    · have hf := it_t c6 hf
      refine lv_iconst (v := 1) hx hb dX4_lose_22 (by decide) ?_
      refine lv_istore_n (lv' := [(2, .int 1), (0, .ref (ad 0)), (1, .int x1)]) hx hb dX4_lose_23 rfl hl (by decide) rfl (fun ls hl => ?_)
      refine lv_aload_n hx hb dX4_lose_24 rfl (lv_at hl 1 rfl) ?_
      refine gf_X4_62 C0 hP 0 wdM_0 rfl dX4_lose_25 ?_
      refine lv_iload_n hx hb dX4_lose_28 rfl (lv_at hl 2 rfl) ?_
      refine lv_iconst (v := (-1)) hx hb dX4_lose_29 (by decide) ?_
      obtain ⟨h7, hf⟩ := zq_in_s hf
      obtain ⟨g8, eg8, hf⟩ := zq_lt_s hf
      refine zis (ws' := (wdM ad cy g8 u)) C0 hP hD hS 18 wdM_18 h7 (by rw [eg8]; rfl) dX4_lose_30 (fun H locs hP hD hS => ?_)
      refine lv_iload_n hx hb dX4_lose_31 rfl (lv_at hl 0 rfl) ?_
      obtain ⟨rfl, rfl⟩ := zq_j2 hf
      exact hret _ _ _ _ rfl dX4_lose_32 hP hD hS
    · have hf := it_f c6 hf
      refine lv_iconst (v := 0) hx hb dX4_lose_18 (by decide) ?_
      refine lv_goto (tgt := 23) hx hb dX4_lose_19 (by decide) ?_
      refine lv_istore_n (lv' := [(2, .int 0), (0, .ref (ad 0)), (1, .int x1)]) hx hb dX4_lose_23 rfl hl (by decide) rfl (fun ls hl => ?_)
      refine lv_aload_n hx hb dX4_lose_24 rfl (lv_at hl 1 rfl) ?_
      refine gf_X4_62 C0 hP 0 wdM_0 rfl dX4_lose_25 ?_
      refine lv_iload_n hx hb dX4_lose_28 rfl (lv_at hl 2 rfl) ?_
      refine lv_iconst (v := (-1)) hx hb dX4_lose_29 (by decide) ?_
      obtain ⟨h9, hf⟩ := zq_in_s hf
      obtain ⟨g10, eg10, hf⟩ := zq_lt_s hf
      refine zis (ws' := (wdM ad cy g10 u)) C0 hP hD hS 18 wdM_18 h9 (by rw [eg10]; rfl) dX4_lose_30 (fun H locs hP hD hS => ?_)
      refine lv_iload_n hx hb dX4_lose_31 rfl (lv_at hl 0 rfl) ?_
      obtain ⟨rfl, rfl⟩ := zq_j2 hf
      exact hret _ _ _ _ rfl dX4_lose_32 hP hD hS
  · have hf := it_f c3 hf
    refine lv_iconst (v := (-1)) hx hb dX4_lose_7 (by decide) ?_
    obtain ⟨rfl, rfl⟩ := zq_j2 hf
    exact hret _ _ _ _ rfl dX4_lose_8 hP hD hS

def f_X4_noCell (g : zS) (x1 : Int32) (x2 : Int32) : Option (Int32) :=
  zq_rd (g 26) 4 x1 (fun v1 =>
  if 0 ≤ v1 then (
  zq_rd (g 26) 4 x1 (fun v4 =>
  zq_b1 (f_X4_in (Int32.toInt64 x2) 0 ((Int32.toInt64 v4) - 1)) (fun r7 =>
  if r7 = 0 then (
  some 3) else (
  some 0)))) else (
  some 1))
set_option maxHeartbeats 4000000 in
set_option maxRecDepth 100000 in
theorem c_X4_noCell {l : Launch} {D : va_G} {ad : Nat → Nat} {cy : Nat → ClassId} {g : zS} {u : zJ} {x1 : Int32} {x2 : Int32} {r0 : Int32} (hf : f_X4_noCell g x1 x2 = some r0) : zMI l yX4_noCell (zW yX4_noCell cX4_noCell 3 (some .int)) { frames := 1, cells := 0, slots := 0, locals := 25 } D cy [.ref (ad 0), .int x1, .int x2] (wdM ad cy g u) r0 (wdM ad cy g u) := by
  unfold f_X4_noCell at hf
  refine zEI (ty := .int) (by decide) (Nat.le_of_ble_eq_true rfl) ?_
  intro p e s9 m9 below meth c A Q C0 hret ls hl hP hD
  have hl : lv_has ls 3 [(0, .ref (ad 0)), (1, .int x1), (2, .int x2)] := hl
  have hS : va_S A s9.heap s9.heap [] := va_S.rf
  obtain ⟨hx, hb, hml, hown, hts⟩ := id C0.1
  refine lv_aload_n hx hb dX4_noCell_0 rfl (lv_at hl 0 rfl) ?_
  refine gf_X4_62 C0 hP 0 wdM_0 rfl dX4_noCell_1 ?_
  refine lv_iload_n hx hb dX4_noCell_4 rfl (lv_at hl 1 rfl) ?_
  obtain ⟨v1, ev1, h2, hf⟩ := zq_rd_s hf
  refine zia C0 hP 18 wdM_18 ev1 h2 dX4_noCell_5 ?_
  refine lv_if_ge (tgt := 13) hx hb dX4_noCell_6 (by decide) (fun c3 => ?_) (fun c3 => ?_)
  · have hf := it_t c3 hf
    refine lv_iload_n hx hb dX4_noCell_13 rfl (lv_at hl 2 rfl) ?_
    refine lv_i2l hx hb dX4_noCell_14 rfl ?_
    refine lv_lconst (v := 0) hx hb dX4_noCell_15 (by decide) ?_
    refine lv_aload_n hx hb dX4_noCell_16 rfl (lv_at hl 0 rfl) ?_
    refine gf_X4_62 C0 hP 0 wdM_0 rfl dX4_noCell_17 ?_
    refine lv_iload_n hx hb dX4_noCell_20 rfl (lv_at hl 1 rfl) ?_
    obtain ⟨v4, ev4, h5, hf⟩ := zq_rd_s hf
    refine zia C0 hP 18 wdM_18 ev4 h5 dX4_noCell_21 ?_
    refine lv_i2l hx hb dX4_noCell_22 rfl ?_
    refine lv_lconst (v := 1) hx hb dX4_noCell_23 (by decide) ?_
    refine lv_lsub hx hb dX4_noCell_24 ?_
    obtain ⟨r7, hc6, hf⟩ := zq_b1_s hf
    refine zSI (ws' := (wdM ad cy g u)) (rest := []) C0 (fun _ h => h) zF.nil (c_X4_in hc6) hP hD hS my_X4_in kl_X4_87 ⟨rfl, rfl⟩ ⟨Nat.le_of_ble_eq_true rfl, Nat.le_of_ble_eq_true rfl⟩ rfl hl.1 rfl (Nat.le_of_ble_eq_true rfl) dX4_noCell_25 ⟨Nat.zero_le _, Nat.zero_le _⟩ (fun H locs hP hD hS => ?_)
    refine lv_if_eq (tgt := 35) hx hb dX4_noCell_28 (by decide) (fun c8 => ?_) (fun c8 => ?_)
    · have hf := it_t c8 hf
      refine lv_iconst (v := 3) hx hb dX4_noCell_35 (by decide) ?_
      obtain rfl := Option.some.inj hf
      exact hret _ _ _ _ rfl dX4_noCell_36 hP hD hS
    · have hf := it_f c8 hf
      refine lv_iconst (v := 0) hx hb dX4_noCell_31 (by decide) ?_
      refine lv_goto (tgt := 36) hx hb dX4_noCell_32 (by decide) ?_
      obtain rfl := Option.some.inj hf
      exact hret _ _ _ _ rfl dX4_noCell_36 hP hD hS
  · have hf := it_f c3 hf
    refine lv_iconst (v := 1) hx hb dX4_noCell_9 (by decide) ?_
    refine lv_goto (tgt := 36) hx hb dX4_noCell_10 (by decide) ?_
    obtain rfl := Option.some.inj hf
    exact hret _ _ _ _ rfl dX4_noCell_36 hP hD hS

def f_X4_put (g : zS) (x1 : Int32) (x2 : Int32) (x3 : Int32) : Option (Int32 × zS) :=
  zq_b1 (f_X4_noSheet x1) (fun r2 =>
  if r2 = 0 then (
  zq_b1 (f_X4_noCell g x1 x2) (fun r5 =>
  if r5 ≤ 0 then (
  zq_rd (g 27) 4 x1 (fun v7 =>
  if v7 = 0 then (
  zq_in 240 ((60 * x1) + x2) (zq_lt (va_up g 28 (upd (g 28) (Int32.toNatClampNeg ((60 * x1) + x2)) ((Int32.toInt8 x3).toInt32))) (fun g24 =>
  zq_b2 (f_X4_refused g24 1) (fun r26 g27 =>
  some (r26, g27))))) else (
  zq_rd (g 27) 4 x1 (fun v10 =>
  if v10 = 1 then (
  zq_in 240 ((60 * x1) + x2) (zq_lt (va_up g 28 (upd (g 28) (Int32.toNatClampNeg ((60 * x1) + x2)) ((Int32.toInt16 x3).toInt32))) (fun g19 =>
  zq_b2 (f_X4_refused g19 1) (fun r21 g22 =>
  some (r21, g22))))) else (
  zq_in 240 ((60 * x1) + x2) (zq_lt (va_up g 28 (upd (g 28) (Int32.toNatClampNeg ((60 * x1) + x2)) x3)) (fun g14 =>
  zq_b2 (f_X4_refused g14 1) (fun r16 g17 =>
  some (r16, g17))))))))) else (
  zq_b1 (f_X4_noCell g x1 x2) (fun r29 =>
  zq_b2 (f_X4_failed g r29) (fun r31 g32 =>
  some (r31, g32)))))) else (
  zq_b2 (f_X4_refused g (-1)) (fun r34 g35 =>
  some (r34, g35))))
set_option maxHeartbeats 4000000 in
set_option maxRecDepth 100000 in
theorem c_X4_put {l : Launch} {D : va_G} {ad : Nat → Nat} {cy : Nat → ClassId} {g : zS} {u : zJ} {x1 : Int32} {x2 : Int32} {x3 : Int32} {r0 : Int32} {g' : zS} (hf : f_X4_put g x1 x2 x3 = some (r0, g')) : zMI l yX4_put (zW yX4_put cX4_put 4 (some .int)) { frames := 2, cells := 0, slots := 0, locals := 47 } D cy [.ref (ad 0), .int x1, .int x2, .int x3] (wdM ad cy g u) r0 (wdM ad cy g' u) := by
  unfold f_X4_put at hf
  refine zEI (ty := .int) (by decide) (Nat.le_of_ble_eq_true rfl) ?_
  intro p e s9 m9 below meth c A Q C0 hret ls hl hP hD
  have hl : lv_has ls 4 [(0, .ref (ad 0)), (1, .int x1), (2, .int x2), (3, .int x3)] := hl
  have hS : va_S A s9.heap s9.heap [] := va_S.rf
  obtain ⟨hx, hb, hml, hown, hts⟩ := id C0.1
  refine lv_iload_n hx hb dX4_put_0 rfl (lv_at hl 1 rfl) ?_
  obtain ⟨r2, hc1, hf⟩ := zq_b1_s hf
  refine zSI (ws' := (wdM ad cy g u)) (rest := []) C0 (fun _ h => h) zF.nil (c_X4_noSheet hc1) hP hD hS my_X4_noSheet kl_X4_128 ⟨rfl, rfl⟩ ⟨Nat.le_of_ble_eq_true rfl, Nat.le_of_ble_eq_true rfl⟩ rfl hl.1 rfl (Nat.le_of_ble_eq_true rfl) dX4_put_1 ⟨Nat.zero_le _, Nat.zero_le _⟩ (fun H locs hP hD hS => ?_)
  refine lv_if_eq (tgt := 13) hx hb dX4_put_4 (by decide) (fun c3 => ?_) (fun c3 => ?_)
  · have hf := it_t c3 hf
    refine lv_aload_n hx hb dX4_put_13 rfl (lv_at hl 0 rfl) ?_
    refine lv_iload_n hx hb dX4_put_14 rfl (lv_at hl 1 rfl) ?_
    refine lv_iload_n hx hb dX4_put_15 rfl (lv_at hl 2 rfl) ?_
    obtain ⟨r5, hc4, hf⟩ := zq_b1_s hf
    refine zVI (ws' := (wdM ad cy g u)) (rest := []) C0 (fun _ h => h) zF.id (c_X4_noCell hc4) hP hD hS my_X4_noCell kl_X4_269 ⟨rfl, rfl⟩ ⟨Nat.le_of_ble_eq_true rfl, Nat.le_of_ble_eq_true rfl⟩ (q0 := 0) (ci := 4) rfl wdM_0 rfl hl.1 rfl (Nat.le_of_ble_eq_true rfl) dX4_put_16 ⟨Nat.zero_le _, Nat.zero_le _⟩ (fun H locs hP hD hS => ?_)
    refine lv_if_le (tgt := 33) hx hb dX4_put_19 (by decide) (fun c6 => ?_) (fun c6 => ?_)
    · have hf := it_t c6 hf
      refine lv_aload_n hx hb dX4_put_33 rfl (lv_at hl 0 rfl) ?_
      refine gf_X4_68 C0 hP 0 wdM_0 rfl dX4_put_34 ?_
      refine lv_bipush (v := 60) hx hb dX4_put_37 (by decide) ?_
      refine lv_iload_n hx hb dX4_put_39 rfl (lv_at hl 1 rfl) ?_
      refine lv_imul hx hb dX4_put_40 ?_
      refine lv_iload_n hx hb dX4_put_41 rfl (lv_at hl 2 rfl) ?_
      refine lv_iadd hx hb dX4_put_42 ?_
      refine lv_aload_n hx hb dX4_put_43 rfl (lv_at hl 0 rfl) ?_
      refine gf_X4_65 C0 hP 0 wdM_0 rfl dX4_put_44 ?_
      refine lv_iload_n hx hb dX4_put_47 rfl (lv_at hl 1 rfl) ?_
      obtain ⟨v7, ev7, h8, hf⟩ := zq_rd_s hf
      refine zia C0 hP 19 wdM_19 ev7 h8 dX4_put_48 ?_
      refine lv_if_ne (tgt := 57) hx hb dX4_put_49 (by decide) (fun c9 => ?_) (fun c9 => ?_)
      · have hf := it_f c9 hf
        refine lv_aload_n hx hb dX4_put_57 rfl (lv_at hl 0 rfl) ?_
        refine gf_X4_65 C0 hP 0 wdM_0 rfl dX4_put_58 ?_
        refine lv_iload_n hx hb dX4_put_61 rfl (lv_at hl 1 rfl) ?_
        obtain ⟨v10, ev10, h11, hf⟩ := zq_rd_s hf
        refine zia C0 hP 19 wdM_19 ev10 h11 dX4_put_62 ?_
        refine lv_iconst (v := 1) hx hb dX4_put_63 (by decide) ?_
        refine lv_icmp_ne (tgt := 72) hx hb dX4_put_64 (by decide) (fun c12 => ?_) (fun c12 => ?_)
        · have hf := it_f c12 hf
          refine lv_iload_n hx hb dX4_put_72 rfl (lv_at hl 3 rfl) ?_
          obtain ⟨h13, hf⟩ := zq_in_s hf
          obtain ⟨g14, eg14, hf⟩ := zq_lt_s hf
          refine zis (ws' := (wdM ad cy g14 u)) C0 hP hD hS 20 wdM_20 h13 (by rw [eg14]; rfl) dX4_put_73 (fun H locs hP hD hS => ?_)
          refine lv_aload_n hx hb dX4_put_74 rfl (lv_at hl 0 rfl) ?_
          refine lv_iconst (v := 1) hx hb dX4_put_75 (by decide) ?_
          obtain ⟨r16, g17, hc15, hf⟩ := zq_b2_s hf
          refine zVI (ws' := (wdM ad cy g17 u)) (rest := []) C0 (fun _ h => h) zF.id (c_X4_refused hc15) hP hD hS my_X4_refused kl_X4_132 ⟨rfl, rfl⟩ ⟨Nat.le_of_ble_eq_true rfl, Nat.le_of_ble_eq_true rfl⟩ (q0 := 0) (ci := 4) rfl wdM_0 rfl hl.1 rfl (Nat.le_of_ble_eq_true rfl) dX4_put_76 ⟨Nat.zero_le _, Nat.zero_le _⟩ (fun H locs hP hD hS => ?_)
          obtain ⟨rfl, rfl⟩ := zq_j2 hf
          exact hret _ _ _ _ rfl dX4_put_79 hP hD hS
        · have hf := it_t c12 hf
          refine lv_iload_n hx hb dX4_put_67 rfl (lv_at hl 3 rfl) ?_
          refine lv_i2s hx hb dX4_put_68 rfl ?_
          refine lv_goto (tgt := 73) hx hb dX4_put_69 (by decide) ?_
          obtain ⟨h18, hf⟩ := zq_in_s hf
          obtain ⟨g19, eg19, hf⟩ := zq_lt_s hf
          refine zis (ws' := (wdM ad cy g19 u)) C0 hP hD hS 20 wdM_20 h18 (by rw [eg19]; rfl) dX4_put_73 (fun H locs hP hD hS => ?_)
          refine lv_aload_n hx hb dX4_put_74 rfl (lv_at hl 0 rfl) ?_
          refine lv_iconst (v := 1) hx hb dX4_put_75 (by decide) ?_
          obtain ⟨r21, g22, hc20, hf⟩ := zq_b2_s hf
          refine zVI (ws' := (wdM ad cy g22 u)) (rest := []) C0 (fun _ h => h) zF.id (c_X4_refused hc20) hP hD hS my_X4_refused kl_X4_132 ⟨rfl, rfl⟩ ⟨Nat.le_of_ble_eq_true rfl, Nat.le_of_ble_eq_true rfl⟩ (q0 := 0) (ci := 4) rfl wdM_0 rfl hl.1 rfl (Nat.le_of_ble_eq_true rfl) dX4_put_76 ⟨Nat.zero_le _, Nat.zero_le _⟩ (fun H locs hP hD hS => ?_)
          obtain ⟨rfl, rfl⟩ := zq_j2 hf
          exact hret _ _ _ _ rfl dX4_put_79 hP hD hS
      · have hf := it_t c9 hf
        refine lv_iload_n hx hb dX4_put_52 rfl (lv_at hl 3 rfl) ?_
        refine lv_i2b hx hb dX4_put_53 rfl ?_
        refine lv_goto (tgt := 73) hx hb dX4_put_54 (by decide) ?_
        obtain ⟨h23, hf⟩ := zq_in_s hf
        obtain ⟨g24, eg24, hf⟩ := zq_lt_s hf
        refine zis (ws' := (wdM ad cy g24 u)) C0 hP hD hS 20 wdM_20 h23 (by rw [eg24]; rfl) dX4_put_73 (fun H locs hP hD hS => ?_)
        refine lv_aload_n hx hb dX4_put_74 rfl (lv_at hl 0 rfl) ?_
        refine lv_iconst (v := 1) hx hb dX4_put_75 (by decide) ?_
        obtain ⟨r26, g27, hc25, hf⟩ := zq_b2_s hf
        refine zVI (ws' := (wdM ad cy g27 u)) (rest := []) C0 (fun _ h => h) zF.id (c_X4_refused hc25) hP hD hS my_X4_refused kl_X4_132 ⟨rfl, rfl⟩ ⟨Nat.le_of_ble_eq_true rfl, Nat.le_of_ble_eq_true rfl⟩ (q0 := 0) (ci := 4) rfl wdM_0 rfl hl.1 rfl (Nat.le_of_ble_eq_true rfl) dX4_put_76 ⟨Nat.zero_le _, Nat.zero_le _⟩ (fun H locs hP hD hS => ?_)
        obtain ⟨rfl, rfl⟩ := zq_j2 hf
        exact hret _ _ _ _ rfl dX4_put_79 hP hD hS
    · have hf := it_f c6 hf
      refine lv_aload_n hx hb dX4_put_22 rfl (lv_at hl 0 rfl) ?_
      refine lv_aload_n hx hb dX4_put_23 rfl (lv_at hl 0 rfl) ?_
      refine lv_iload_n hx hb dX4_put_24 rfl (lv_at hl 1 rfl) ?_
      refine lv_iload_n hx hb dX4_put_25 rfl (lv_at hl 2 rfl) ?_
      obtain ⟨r29, hc28, hf⟩ := zq_b1_s hf
      refine zVI (ws' := (wdM ad cy g u)) (rest := [.ref (ad 0)]) C0 (fun _ h => h) zF.id (c_X4_noCell hc28) hP hD hS my_X4_noCell kl_X4_269 ⟨rfl, rfl⟩ ⟨Nat.le_of_ble_eq_true rfl, Nat.le_of_ble_eq_true rfl⟩ (q0 := 0) (ci := 4) rfl wdM_0 rfl hl.1 rfl (Nat.le_of_ble_eq_true rfl) dX4_put_26 ⟨Nat.zero_le _, Nat.zero_le _⟩ (fun H locs hP hD hS => ?_)
      obtain ⟨r31, g32, hc30, hf⟩ := zq_b2_s hf
      refine zVI (ws' := (wdM ad cy g32 u)) (rest := []) C0 (fun _ h => h) zF.id (c_X4_failed hc30) hP hD hS my_X4_failed kl_X4_120 ⟨rfl, rfl⟩ ⟨Nat.le_of_ble_eq_true rfl, Nat.le_of_ble_eq_true rfl⟩ (q0 := 0) (ci := 4) rfl wdM_0 rfl hl.1 rfl (Nat.le_of_ble_eq_true rfl) dX4_put_29 ⟨Nat.zero_le _, Nat.zero_le _⟩ (fun H locs hP hD hS => ?_)
      obtain ⟨rfl, rfl⟩ := zq_j2 hf
      exact hret _ _ _ _ rfl dX4_put_32 hP hD hS
  · have hf := it_f c3 hf
    refine lv_aload_n hx hb dX4_put_7 rfl (lv_at hl 0 rfl) ?_
    refine lv_iconst (v := (-1)) hx hb dX4_put_8 (by decide) ?_
    obtain ⟨r34, g35, hc33, hf⟩ := zq_b2_s hf
    refine zVI (ws' := (wdM ad cy g35 u)) (rest := []) C0 (fun _ h => h) zF.id (c_X4_refused hc33) hP hD hS my_X4_refused kl_X4_132 ⟨rfl, rfl⟩ ⟨Nat.le_of_ble_eq_true rfl, Nat.le_of_ble_eq_true rfl⟩ (q0 := 0) (ci := 4) rfl wdM_0 rfl hl.1 rfl (Nat.le_of_ble_eq_true rfl) dX4_put_9 ⟨Nat.zero_le _, Nat.zero_le _⟩ (fun H locs hP hD hS => ?_)
    obtain ⟨rfl, rfl⟩ := zq_j2 hf
    exact hret _ _ _ _ rfl dX4_put_12 hP hD hS

def f_X4_cell_J53 (j1 : Int32) (j2 : Int32) (g : zS) : Option (Int64 × zS) :=
  zq_b1 (f_X4_noCell g j1 j2) (fun r14 =>
  if r14 ≤ 0 then (
  zq_rd (g 28) 240 ((60 * j1) + j2) (fun v16 =>
  some ((Int32.toInt64 v16), g))) else (
  zq_b1 (f_X4_noCell g j1 j2) (fun r19 =>
  zq_b2 (f_X4_failedLong g r19) (fun r21 g22 =>
  some (r21, g22)))))
def f_X4_cell (g : zS) (x1 : Int32) (x2 : Int32) (x3 : Int32) : Option (Int64 × zS) :=
  zq_lt (va_up g 0 (fun _ => 0)) (fun g1 =>
  zq_b1 (f_X4_noSheet x1) (fun r3 =>
  if r3 = 0 then (
  zq_b1 (f_X4_in (Int32.toInt64 x3) 0 2) (fun r8 =>
  if r8 = 0 then (
  zq_b1 (f_X4_lost) (fun r30 =>
  some (r30, g1))) else (
  zq_rd (g1 26) 4 x1 (fun v10 =>
  if v10 < 0 then (
  f_X4_cell_J53 x1 x2 g1) else (
  zq_rd (g1 27) 4 x1 (fun v23 =>
  if v23 = x3 then (
  f_X4_cell_J53 x1 x2 g1) else (
  zq_b2 (f_X4_failedLong g1 2) (fun r27 g28 =>
  some (r27, g28))))))))) else (
  zq_b1 (f_X4_lost) (fun r6 =>
  some (r6, g1)))))
set_option maxHeartbeats 4000000 in
set_option maxRecDepth 100000 in
theorem c_X4_cell {l : Launch} {D : va_G} {ad : Nat → Nat} {cy : Nat → ClassId} {g : zS} {u : zJ} {x1 : Int32} {x2 : Int32} {x3 : Int32} {r0 : Int64} {g' : zS} (hf : f_X4_cell g x1 x2 x3 = some (r0, g')) : zML l yX4_cell (zW yX4_cell cX4_cell 4 (some .long)) { frames := 2, cells := 0, slots := 0, locals := 47 } D cy [.ref (ad 0), .int x1, .int x2, .int x3] (wdM ad cy g u) r0 (wdM ad cy g' u) := by
  unfold f_X4_cell at hf
  refine zEL (by decide) (Nat.le_of_ble_eq_true rfl) ?_
  intro p e s9 m9 below meth c A Q C0 hret ls hl hP hD
  have hl : lv_has ls 4 [(0, .ref (ad 0)), (1, .int x1), (2, .int x2), (3, .int x3)] := hl
  have hS : va_S A s9.heap s9.heap [] := va_S.rf
  obtain ⟨hx, hb, hml, hown, hts⟩ := id C0.1
  have hj53 : ∀ (j1 : Int32) (j2 : Int32) (g : zS), f_X4_cell_J53 j1 j2 g = some (r0, g') → ∀ (H : Heap) (locs : List Loc) (ls : Array Slot), va_P D vwCl (wdM ad cy g u) H → va_D A (wdM ad cy g u) → va_S A s9.heap H locs → lv_has ls 4 [(0, .ref (ad 0)), (1, .int j1), (2, .int j2)] → W p l e { frames := 2, cells := 0, slots := 0, locals := 47 } s9 m9 [.ref (ad 0), .int x1, .int x2, .int x3].toArray below meth c H locs 0 0 Q (F0 m9 53 ls []) := by
    intro j1 j2 g hf H locs ls hP hD hS hl
    unfold f_X4_cell_J53 at hf
    refine lv_aload_n hx hb dX4_cell_53 rfl (lv_at hl 0 rfl) ?_
    refine lv_iload_n hx hb dX4_cell_54 rfl (lv_at hl 1 rfl) ?_
    refine lv_iload_n hx hb dX4_cell_55 rfl (lv_at hl 2 rfl) ?_
    obtain ⟨r14, hc13, hf⟩ := zq_b1_s hf
    refine zVI (ws' := (wdM ad cy g u)) (rest := []) C0 (fun _ h => h) zF.id (c_X4_noCell hc13) hP hD hS my_X4_noCell kl_X4_269 ⟨rfl, rfl⟩ ⟨Nat.le_of_ble_eq_true rfl, Nat.le_of_ble_eq_true rfl⟩ (q0 := 0) (ci := 4) rfl wdM_0 rfl hl.1 rfl (Nat.le_of_ble_eq_true rfl) dX4_cell_56 ⟨Nat.zero_le _, Nat.zero_le _⟩ (fun H locs hP hD hS => ?_)
    refine lv_if_le (tgt := 75) hx hb dX4_cell_59 (by decide) (fun c15 => ?_) (fun c15 => ?_)
    · have hf := it_t c15 hf
      refine lv_aload_n hx hb dX4_cell_75 rfl (lv_at hl 0 rfl) ?_
      refine gf_X4_68 C0 hP 0 wdM_0 rfl dX4_cell_76 ?_
      refine lv_bipush (v := 60) hx hb dX4_cell_79 (by decide) ?_
      refine lv_iload_n hx hb dX4_cell_81 rfl (lv_at hl 1 rfl) ?_
      refine lv_imul hx hb dX4_cell_82 ?_
      refine lv_iload_n hx hb dX4_cell_83 rfl (lv_at hl 2 rfl) ?_
      refine lv_iadd hx hb dX4_cell_84 ?_
      obtain ⟨v16, ev16, h17, hf⟩ := zq_rd_s hf
      refine zia C0 hP 20 wdM_20 ev16 h17 dX4_cell_85 ?_
      refine lv_i2l hx hb dX4_cell_86 rfl ?_
      obtain ⟨rfl, rfl⟩ := zq_j2 hf
      exact hret _ _ _ _ dX4_cell_87 hP hD hS
    · have hf := it_f c15 hf
      refine lv_aload_n hx hb dX4_cell_62 rfl (lv_at hl 0 rfl) ?_
      refine lv_aload_n hx hb dX4_cell_63 rfl (lv_at hl 0 rfl) ?_
      refine lv_iload_n hx hb dX4_cell_64 rfl (lv_at hl 1 rfl) ?_
      refine lv_iload_n hx hb dX4_cell_65 rfl (lv_at hl 2 rfl) ?_
      obtain ⟨r19, hc18, hf⟩ := zq_b1_s hf
      refine zVI (ws' := (wdM ad cy g u)) (rest := [.ref (ad 0)]) C0 (fun _ h => h) zF.id (c_X4_noCell hc18) hP hD hS my_X4_noCell kl_X4_269 ⟨rfl, rfl⟩ ⟨Nat.le_of_ble_eq_true rfl, Nat.le_of_ble_eq_true rfl⟩ (q0 := 0) (ci := 4) rfl wdM_0 rfl hl.1 rfl (Nat.le_of_ble_eq_true rfl) dX4_cell_66 ⟨Nat.zero_le _, Nat.zero_le _⟩ (fun H locs hP hD hS => ?_)
      obtain ⟨r21, g22, hc20, hf⟩ := zq_b2_s hf
      refine zVL (ws' := (wdM ad cy g22 u)) (rest := []) C0 (fun _ h => h) zF.id (c_X4_failedLong hc20) hP hD hS my_X4_failedLong kl_X4_272 ⟨rfl, rfl⟩ ⟨Nat.le_of_ble_eq_true rfl, Nat.le_of_ble_eq_true rfl⟩ (q0 := 0) (ci := 4) rfl wdM_0 rfl hl.1 rfl (Nat.le_of_ble_eq_true rfl) dX4_cell_69 ⟨Nat.zero_le _, Nat.zero_le _⟩ (fun H locs hP hD hS => ?_)
      refine lv_goto (tgt := 87) hx hb dX4_cell_72 (by decide) ?_
      obtain ⟨rfl, rfl⟩ := zq_j2 hf
      exact hret _ _ _ _ dX4_cell_87 hP hD hS
  refine lv_aload_n hx hb dX4_cell_0 rfl (lv_at hl 0 rfl) ?_
  refine lv_iconst (v := 0) hx hb dX4_cell_1 (by decide) ?_
  obtain ⟨g1, eg1, hf⟩ := zq_lt_s hf
  refine pf_X4_76 (ws' := (wdM ad cy g1 u)) C0 hP hD hS 0 wdM_0 (Nat.le_of_ble_eq_true rfl) (by rw [eg1]; rfl) dX4_cell_2 (fun H locs hP hD hS => ?_)
  refine lv_iload_n hx hb dX4_cell_5 rfl (lv_at hl 1 rfl) ?_
  obtain ⟨r3, hc2, hf⟩ := zq_b1_s hf
  refine zSI (ws' := (wdM ad cy g1 u)) (rest := []) C0 (fun _ h => h) zF.nil (c_X4_noSheet hc2) hP hD hS my_X4_noSheet kl_X4_128 ⟨rfl, rfl⟩ ⟨Nat.le_of_ble_eq_true rfl, Nat.le_of_ble_eq_true rfl⟩ rfl hl.1 rfl (Nat.le_of_ble_eq_true rfl) dX4_cell_6 ⟨Nat.zero_le _, Nat.zero_le _⟩ (fun H locs hP hD hS => ?_)
  refine lv_if_ne (tgt := 24) hx hb dX4_cell_9 (by decide) (fun c4 => ?_) (fun c4 => ?_)
  · have hf := it_f c4 hf
    obtain ⟨r6, hc5, hf⟩ := zq_b1_s hf
    refine zSL (ws' := (wdM ad cy g1 u)) (rest := []) C0 (fun _ h => h) zF.nil (c_X4_lost hc5) hP hD hS my_X4_lost kl_X4_80 ⟨rfl, rfl⟩ ⟨Nat.le_of_ble_eq_true rfl, Nat.le_of_ble_eq_true rfl⟩ rfl hl.1 rfl (Nat.le_of_ble_eq_true rfl) dX4_cell_24 ⟨Nat.zero_le _, Nat.zero_le _⟩ (fun H locs hP hD hS => ?_)
    obtain ⟨rfl, rfl⟩ := zq_j2 hf
    exact hret _ _ _ _ dX4_cell_27 hP hD hS
  · have hf := it_t c4 hf
    refine lv_iload_n hx hb dX4_cell_12 rfl (lv_at hl 3 rfl) ?_
    refine lv_i2l hx hb dX4_cell_13 rfl ?_
    refine lv_lconst (v := 0) hx hb dX4_cell_14 (by decide) ?_
    refine lv_ldc2 hx hb hown (hts _ kc_X4_135) dX4_cell_15 ?_
    obtain ⟨r8, hc7, hf⟩ := zq_b1_s hf
    refine zSI (ws' := (wdM ad cy g1 u)) (rest := []) C0 (fun _ h => h) zF.nil (c_X4_in hc7) hP hD hS my_X4_in kl_X4_87 ⟨rfl, rfl⟩ ⟨Nat.le_of_ble_eq_true rfl, Nat.le_of_ble_eq_true rfl⟩ rfl hl.1 rfl (Nat.le_of_ble_eq_true rfl) dX4_cell_18 ⟨Nat.zero_le _, Nat.zero_le _⟩ (fun H locs hP hD hS => ?_)
    refine lv_if_ne (tgt := 28) hx hb dX4_cell_21 (by decide) (fun c9 => ?_) (fun c9 => ?_)
    · have hf := it_f c9 hf
      refine lv_aload_n hx hb dX4_cell_28 rfl (lv_at hl 0 rfl) ?_
      refine gf_X4_62 C0 hP 0 wdM_0 rfl dX4_cell_29 ?_
      refine lv_iload_n hx hb dX4_cell_32 rfl (lv_at hl 1 rfl) ?_
      obtain ⟨v10, ev10, h11, hf⟩ := zq_rd_s hf
      refine zia C0 hP 18 wdM_18 ev10 h11 dX4_cell_33 ?_
      refine lv_if_lt (tgt := 53) hx hb dX4_cell_34 (by decide) (fun c12 => ?_) (fun c12 => ?_)
      · have hf := it_t c12 hf
        exact hj53 x1 x2 g1 hf _ _ _ hP hD hS (lv_sub hl [0, 1, 2] rfl)
      · have hf := it_f c12 hf
        refine lv_aload_n hx hb dX4_cell_37 rfl (lv_at hl 0 rfl) ?_
        refine gf_X4_65 C0 hP 0 wdM_0 rfl dX4_cell_38 ?_
        refine lv_iload_n hx hb dX4_cell_41 rfl (lv_at hl 1 rfl) ?_
        obtain ⟨v23, ev23, h24, hf⟩ := zq_rd_s hf
        refine zia C0 hP 19 wdM_19 ev23 h24 dX4_cell_42 ?_
        refine lv_iload_n hx hb dX4_cell_43 rfl (lv_at hl 3 rfl) ?_
        refine lv_icmp_eq (tgt := 53) hx hb dX4_cell_44 (by decide) (fun c25 => ?_) (fun c25 => ?_)
        · have hf := it_t c25 hf
          exact hj53 x1 x2 g1 hf _ _ _ hP hD hS (lv_sub hl [0, 1, 2] rfl)
        · have hf := it_f c25 hf
          refine lv_aload_n hx hb dX4_cell_47 rfl (lv_at hl 0 rfl) ?_
          refine lv_iconst (v := 2) hx hb dX4_cell_48 (by decide) ?_
          obtain ⟨r27, g28, hc26, hf⟩ := zq_b2_s hf
          refine zVL (ws' := (wdM ad cy g28 u)) (rest := []) C0 (fun _ h => h) zF.id (c_X4_failedLong hc26) hP hD hS my_X4_failedLong kl_X4_272 ⟨rfl, rfl⟩ ⟨Nat.le_of_ble_eq_true rfl, Nat.le_of_ble_eq_true rfl⟩ (q0 := 0) (ci := 4) rfl wdM_0 rfl hl.1 rfl (Nat.le_of_ble_eq_true rfl) dX4_cell_49 ⟨Nat.zero_le _, Nat.zero_le _⟩ (fun H locs hP hD hS => ?_)
          obtain ⟨rfl, rfl⟩ := zq_j2 hf
          exact hret _ _ _ _ dX4_cell_52 hP hD hS
    · have hf := it_t c9 hf
      obtain ⟨r30, hc29, hf⟩ := zq_b1_s hf
      refine zSL (ws' := (wdM ad cy g1 u)) (rest := []) C0 (fun _ h => h) zF.nil (c_X4_lost hc29) hP hD hS my_X4_lost kl_X4_80 ⟨rfl, rfl⟩ ⟨Nat.le_of_ble_eq_true rfl, Nat.le_of_ble_eq_true rfl⟩ rfl hl.1 rfl (Nat.le_of_ble_eq_true rfl) dX4_cell_24 ⟨Nat.zero_le _, Nat.zero_le _⟩ (fun H locs hP hD hS => ?_)
      obtain ⟨rfl, rfl⟩ := zq_j2 hf
      exact hret _ _ _ _ dX4_cell_27 hP hD hS

def f_X4_copy_L107 (x1 : Int32) (x2 : Int32) (x5 : Int32) : Nat → Int32 → zS → Option (zS)
  | 0, _, _ => none
  | q9 + 1, x6, g =>
  if x5 ≤ x6 then (
  some g) else (
  zq_rd (g 28) 240 (((60 * x1) + x2) + x6) (fun v38 =>
  zq_in 60 x6 (zq_lt (va_up g 29 (upd (g 29) (Int32.toNatClampNeg x6) v38)) (fun g41 =>
  f_X4_copy_L107 x1 x2 x5 q9 (x6 + 1) g41))))
def f_X4_copy_L144 (x3 : Int32) (x4 : Int32) (x5 : Int32) : Nat → Int32 → zS → Option (zS)
  | 0, _, _ => none
  | q9 + 1, x6, g =>
  if x5 ≤ x6 then (
  some g) else (
  zq_rd (g 29) 60 x6 (fun v45 =>
  zq_in 240 (((60 * x3) + x4) + x6) (zq_lt (va_up g 28 (upd (g 28) (Int32.toNatClampNeg (((60 * x3) + x4) + x6)) v45)) (fun g48 =>
  f_X4_copy_L144 x3 x4 x5 q9 (x6 + 1) g48))))
def f_X4_copy (g : zS) (x1 : Int32) (x2 : Int32) (x3 : Int32) (x4 : Int32) (x5 : Int32) : Option (Int32 × zS) :=
  zq_b1 (f_X4_noSheet x1) (fun r2 =>
  if r2 = 0 then (
  zq_b1 (f_X4_noSheet x3) (fun r8 =>
  if r8 = 0 then (
  zq_rd (g 26) 4 x1 (fun v10 =>
  if v10 < 0 then (
  zq_b2 (f_X4_failed g 1) (fun r14 g15 =>
  some (r14, g15))) else (
  zq_rd (g 26) 4 x3 (fun v16 =>
  if 0 ≤ v16 then (
  zq_rd (g 27) 4 x1 (fun v19 =>
  zq_rd (g 27) 4 x3 (fun v21 =>
  if v19 = v21 then (
  zq_rd (g 26) 4 x1 (fun v24 =>
  zq_b1 (f_X4_isBeyond x2 (Int32.toInt64 x5) v24) (fun r27 =>
  if r27 = 0 then (
  zq_rd (g 26) 4 x3 (fun v32 =>
  zq_b1 (f_X4_isBeyond x4 (Int32.toInt64 x5) v32) (fun r35 =>
  if r35 = 0 then (
  zq_b1 (f_X4_copy_L107 x1 x2 x5 100 0 g) (fun g43 =>
  zq_b1 (f_X4_copy_L144 x3 x4 x5 100 0 g43) (fun g50 =>
  zq_b2 (f_X4_refused g50 x5) (fun r52 g53 =>
  some (r52, g53))))) else (
  zq_b2 (f_X4_failed g 3) (fun r55 g56 =>
  some (r55, g56)))))) else (
  zq_b2 (f_X4_failed g 3) (fun r30 g31 =>
  some (r30, g31)))))) else (
  zq_b2 (f_X4_failed g 2) (fun r58 g59 =>
  some (r58, g59)))))) else (
  zq_b2 (f_X4_failed g 1) (fun r61 g62 =>
  some (r61, g62))))))) else (
  zq_b2 (f_X4_refused g (-1)) (fun r64 g65 =>
  some (r64, g65))))) else (
  zq_b2 (f_X4_refused g (-1)) (fun r5 g6 =>
  some (r5, g6))))
set_option maxHeartbeats 4000000 in
set_option maxRecDepth 100000 in
theorem w_X4_copy_L107 {l : Launch} {p : Program} {e : Env} {s9 : State} {m9 : MethodId} {ag : Array Value} {below : List Frame} {meth : Method} {c : Code} {A : Nat → Prop} {Q : State → Prop} {D : va_G} {ad : Nat → Nat} {cy : Nat → ClassId} {u : zJ} {x1 : Int32} {x2 : Int32} {x5 : Int32} {x3 : Int32} {x4 : Int32} (C0 : zCx p s9 m9 ag c cX4_copy 7 RX4 D cy A)  {go : zS} (e0 : ∀ (H : Heap) (locs : List Loc) (ls : Array Slot), va_P D vwCl (wdM ad cy go u) H → va_D A (wdM ad cy go u) → va_S A s9.heap H locs → lv_has ls 7 [(0, .ref (ad 0)), (3, .int x3), (4, .int x4), (5, .int x5)] → W p l e { frames := 2, cells := 0, slots := 0, locals := 45 } s9 m9 ag below meth c H locs 0 0 Q (F0 m9 141 ls [])) : ∀ (q9 : Nat) (x6 : Int32) (g : zS), f_X4_copy_L107 x1 x2 x5 q9 x6 g = some go → ∀ (H : Heap) (locs : List Loc) (ls : Array Slot), va_P D vwCl (wdM ad cy g u) H → va_D A (wdM ad cy g u) → va_S A s9.heap H locs → lv_has ls 7 [(0, .ref (ad 0)), (1, .int x1), (2, .int x2), (3, .int x3), (4, .int x4), (5, .int x5), (6, .int x6)] → W p l e { frames := 2, cells := 0, slots := 0, locals := 45 } s9 m9 ag below meth c H locs 0 0 Q (F0 m9 107 ls []) := by
  obtain ⟨hx, hb, hml, hown, hts⟩ := id C0.1
  intro q9
  induction q9 with
  | zero =>
    intro x6 g hf
    rw [f_X4_copy_L107] at hf
    cases hf
  | succ q9 ih =>
    intro x6 g hf H locs ls hP hD hS hl
    rw [f_X4_copy_L107] at hf
    refine lv_iload hx hb dX4_copy_107 (lv_at hl 6 rfl) ?_
    refine lv_iload hx hb dX4_copy_109 (lv_at hl 5 rfl) ?_
    refine lv_icmp_ge (tgt := 141) hx hb dX4_copy_111 (by decide) (fun c37 => ?_) (fun c37 => ?_)
    · have hf := it_t c37 hf
      obtain rfl := Option.some.inj hf
      exact e0 _ _ _ hP hD hS (lv_sub hl [0, 3, 4, 5] rfl)
    · have hf := it_f c37 hf
      refine lv_aload_n hx hb dX4_copy_114 rfl (lv_at hl 0 rfl) ?_
      refine gf_X4_71 C0 hP 0 wdM_0 rfl dX4_copy_115 ?_
      refine lv_iload hx hb dX4_copy_118 (lv_at hl 6 rfl) ?_
      refine lv_aload_n hx hb dX4_copy_120 rfl (lv_at hl 0 rfl) ?_
      refine gf_X4_68 C0 hP 0 wdM_0 rfl dX4_copy_121 ?_
      refine lv_bipush (v := 60) hx hb dX4_copy_124 (by decide) ?_
      refine lv_iload_n hx hb dX4_copy_126 rfl (lv_at hl 1 rfl) ?_
      refine lv_imul hx hb dX4_copy_127 ?_
      refine lv_iload_n hx hb dX4_copy_128 rfl (lv_at hl 2 rfl) ?_
      refine lv_iadd hx hb dX4_copy_129 ?_
      refine lv_iload hx hb dX4_copy_130 (lv_at hl 6 rfl) ?_
      refine lv_iadd hx hb dX4_copy_132 ?_
      obtain ⟨v38, ev38, h39, hf⟩ := zq_rd_s hf
      refine zia C0 hP 20 wdM_20 ev38 h39 dX4_copy_133 ?_
      obtain ⟨h40, hf⟩ := zq_in_s hf
      obtain ⟨g41, eg41, hf⟩ := zq_lt_s hf
      refine zis (ws' := (wdM ad cy g41 u)) C0 hP hD hS 21 wdM_21 h40 (by rw [eg41]; rfl) dX4_copy_134 (fun H locs hP hD hS => ?_)
      refine lv_iinc (v := (x6 + 1)) (lv' := [(6, .int (x6 + 1)), (0, .ref (ad 0)), (1, .int x1), (2, .int x2), (3, .int x3), (4, .int x4), (5, .int x5)]) hx hb dX4_copy_135 hl (k := 6) rfl rfl (by decide) rfl (fun ls hl => ?_)
      refine lv_goto (tgt := 107) hx hb dX4_copy_138 (by decide) ?_
      exact ih (x6 + 1) g41 hf _ _ _ hP hD hS (lv_sub hl [1, 2, 3, 4, 5, 6, 0] rfl)
set_option maxHeartbeats 4000000 in
set_option maxRecDepth 100000 in
theorem w_X4_copy_L144 {l : Launch} {p : Program} {e : Env} {s9 : State} {m9 : MethodId} {ag : Array Value} {below : List Frame} {meth : Method} {c : Code} {A : Nat → Prop} {Q : State → Prop} {D : va_G} {ad : Nat → Nat} {cy : Nat → ClassId} {u : zJ} {x3 : Int32} {x4 : Int32} {x5 : Int32} (C0 : zCx p s9 m9 ag c cX4_copy 7 RX4 D cy A)  {go : zS} (e0 : ∀ (H : Heap) (locs : List Loc) (ls : Array Slot), va_P D vwCl (wdM ad cy go u) H → va_D A (wdM ad cy go u) → va_S A s9.heap H locs → lv_has ls 7 [(0, .ref (ad 0)), (5, .int x5)] → W p l e { frames := 2, cells := 0, slots := 0, locals := 45 } s9 m9 ag below meth c H locs 0 0 Q (F0 m9 179 ls [])) : ∀ (q9 : Nat) (x6 : Int32) (g : zS), f_X4_copy_L144 x3 x4 x5 q9 x6 g = some go → ∀ (H : Heap) (locs : List Loc) (ls : Array Slot), va_P D vwCl (wdM ad cy g u) H → va_D A (wdM ad cy g u) → va_S A s9.heap H locs → lv_has ls 7 [(0, .ref (ad 0)), (3, .int x3), (4, .int x4), (5, .int x5), (6, .int x6)] → W p l e { frames := 2, cells := 0, slots := 0, locals := 45 } s9 m9 ag below meth c H locs 0 0 Q (F0 m9 144 ls []) := by
  obtain ⟨hx, hb, hml, hown, hts⟩ := id C0.1
  intro q9
  induction q9 with
  | zero =>
    intro x6 g hf
    rw [f_X4_copy_L144] at hf
    cases hf
  | succ q9 ih =>
    intro x6 g hf H locs ls hP hD hS hl
    rw [f_X4_copy_L144] at hf
    refine lv_iload hx hb dX4_copy_144 (lv_at hl 4 rfl) ?_
    refine lv_iload hx hb dX4_copy_146 (lv_at hl 3 rfl) ?_
    refine lv_icmp_ge (tgt := 179) hx hb dX4_copy_148 (by decide) (fun c44 => ?_) (fun c44 => ?_)
    · have hf := it_t c44 hf
      obtain rfl := Option.some.inj hf
      exact e0 _ _ _ hP hD hS (lv_sub hl [0, 3] rfl)
    · have hf := it_f c44 hf
      refine lv_aload_n hx hb dX4_copy_151 rfl (lv_at hl 0 rfl) ?_
      refine gf_X4_68 C0 hP 0 wdM_0 rfl dX4_copy_152 ?_
      refine lv_bipush (v := 60) hx hb dX4_copy_155 (by decide) ?_
      refine lv_iload_n hx hb dX4_copy_157 rfl (lv_at hl 1 rfl) ?_
      refine lv_imul hx hb dX4_copy_158 ?_
      refine lv_iload hx hb dX4_copy_159 (lv_at hl 2 rfl) ?_
      refine lv_iadd hx hb dX4_copy_161 ?_
      refine lv_iload hx hb dX4_copy_162 (lv_at hl 4 rfl) ?_
      refine lv_iadd hx hb dX4_copy_164 ?_
      refine lv_aload_n hx hb dX4_copy_165 rfl (lv_at hl 0 rfl) ?_
      refine gf_X4_71 C0 hP 0 wdM_0 rfl dX4_copy_166 ?_
      refine lv_iload hx hb dX4_copy_169 (lv_at hl 4 rfl) ?_
      obtain ⟨v45, ev45, h46, hf⟩ := zq_rd_s hf
      refine zia C0 hP 21 wdM_21 ev45 h46 dX4_copy_171 ?_
      obtain ⟨h47, hf⟩ := zq_in_s hf
      obtain ⟨g48, eg48, hf⟩ := zq_lt_s hf
      refine zis (ws' := (wdM ad cy g48 u)) C0 hP hD hS 20 wdM_20 h47 (by rw [eg48]; rfl) dX4_copy_172 (fun H locs hP hD hS => ?_)
      refine lv_iinc (v := (x6 + 1)) (lv' := [(6, .int (x6 + 1)), (0, .ref (ad 0)), (3, .int x3), (4, .int x4), (5, .int x5)]) hx hb dX4_copy_173 hl (k := 4) rfl rfl (by decide) rfl (fun ls hl => ?_)
      refine lv_goto (tgt := 144) hx hb dX4_copy_176 (by decide) ?_
      exact ih (x6 + 1) g48 hf _ _ _ hP hD hS (lv_sub hl [1, 2, 3, 4, 0] rfl)
set_option maxHeartbeats 4000000 in
set_option maxRecDepth 100000 in
theorem c_X4_copy {l : Launch} {D : va_G} {ad : Nat → Nat} {cy : Nat → ClassId} {g : zS} {u : zJ} {x1 : Int32} {x2 : Int32} {x3 : Int32} {x4 : Int32} {x5 : Int32} {r0 : Int32} {g' : zS} (hf : f_X4_copy g x1 x2 x3 x4 x5 = some (r0, g')) : zMI l yX4_copy (zW yX4_copy cX4_copy 7 (some .int)) { frames := 2, cells := 0, slots := 0, locals := 45 } D cy [.ref (ad 0), .int x1, .int x2, .int x3, .int x4, .int x5] (wdM ad cy g u) r0 (wdM ad cy g' u) := by
  unfold f_X4_copy at hf
  refine zEI (ty := .int) (by decide) (Nat.le_of_ble_eq_true rfl) ?_
  intro p e s9 m9 below meth c A Q C0 hret ls hl hP hD
  have hl : lv_has ls 7 [(0, .ref (ad 0)), (1, .int x1), (2, .int x2), (3, .int x3), (4, .int x4), (5, .int x5)] := hl
  have hS : va_S A s9.heap s9.heap [] := va_S.rf
  obtain ⟨hx, hb, hml, hown, hts⟩ := id C0.1
  refine lv_iload_n hx hb dX4_copy_0 rfl (lv_at hl 1 rfl) ?_
  obtain ⟨r2, hc1, hf⟩ := zq_b1_s hf
  refine zSI (ws' := (wdM ad cy g u)) (rest := []) C0 (fun _ h => h) zF.nil (c_X4_noSheet hc1) hP hD hS my_X4_noSheet kl_X4_128 ⟨rfl, rfl⟩ ⟨Nat.le_of_ble_eq_true rfl, Nat.le_of_ble_eq_true rfl⟩ rfl hl.1 rfl (Nat.le_of_ble_eq_true rfl) dX4_copy_1 ⟨Nat.zero_le _, Nat.zero_le _⟩ (fun H locs hP hD hS => ?_)
  refine lv_if_ne (tgt := 14) hx hb dX4_copy_4 (by decide) (fun c3 => ?_) (fun c3 => ?_)
  · have hf := it_f c3 hf
    refine lv_aload_n hx hb dX4_copy_14 rfl (lv_at hl 0 rfl) ?_
    refine lv_iconst (v := (-1)) hx hb dX4_copy_15 (by decide) ?_
    obtain ⟨r5, g6, hc4, hf⟩ := zq_b2_s hf
    refine zVI (ws' := (wdM ad cy g6 u)) (rest := []) C0 (fun _ h => h) zF.id (c_X4_refused hc4) hP hD hS my_X4_refused kl_X4_132 ⟨rfl, rfl⟩ ⟨Nat.le_of_ble_eq_true rfl, Nat.le_of_ble_eq_true rfl⟩ (q0 := 0) (ci := 4) rfl wdM_0 rfl hl.1 rfl (Nat.le_of_ble_eq_true rfl) dX4_copy_16 ⟨Nat.zero_le _, Nat.zero_le _⟩ (fun H locs hP hD hS => ?_)
    obtain ⟨rfl, rfl⟩ := zq_j2 hf
    exact hret _ _ _ _ rfl dX4_copy_19 hP hD hS
  · have hf := it_t c3 hf
    refine lv_iload_n hx hb dX4_copy_7 rfl (lv_at hl 3 rfl) ?_
    obtain ⟨r8, hc7, hf⟩ := zq_b1_s hf
    refine zSI (ws' := (wdM ad cy g u)) (rest := []) C0 (fun _ h => h) zF.nil (c_X4_noSheet hc7) hP hD hS my_X4_noSheet kl_X4_128 ⟨rfl, rfl⟩ ⟨Nat.le_of_ble_eq_true rfl, Nat.le_of_ble_eq_true rfl⟩ rfl hl.1 rfl (Nat.le_of_ble_eq_true rfl) dX4_copy_8 ⟨Nat.zero_le _, Nat.zero_le _⟩ (fun H locs hP hD hS => ?_)
    refine lv_if_eq (tgt := 20) hx hb dX4_copy_11 (by decide) (fun c9 => ?_) (fun c9 => ?_)
    · have hf := it_t c9 hf
      refine lv_aload_n hx hb dX4_copy_20 rfl (lv_at hl 0 rfl) ?_
      refine gf_X4_62 C0 hP 0 wdM_0 rfl dX4_copy_21 ?_
      refine lv_iload_n hx hb dX4_copy_24 rfl (lv_at hl 1 rfl) ?_
      obtain ⟨v10, ev10, h11, hf⟩ := zq_rd_s hf
      refine zia C0 hP 18 wdM_18 ev10 h11 dX4_copy_25 ?_
      refine lv_if_lt (tgt := 38) hx hb dX4_copy_26 (by decide) (fun c12 => ?_) (fun c12 => ?_)
      · have hf := it_t c12 hf
        refine lv_aload_n hx hb dX4_copy_38 rfl (lv_at hl 0 rfl) ?_
        refine lv_iconst (v := 1) hx hb dX4_copy_39 (by decide) ?_
        obtain ⟨r14, g15, hc13, hf⟩ := zq_b2_s hf
        refine zVI (ws' := (wdM ad cy g15 u)) (rest := []) C0 (fun _ h => h) zF.id (c_X4_failed hc13) hP hD hS my_X4_failed kl_X4_120 ⟨rfl, rfl⟩ ⟨Nat.le_of_ble_eq_true rfl, Nat.le_of_ble_eq_true rfl⟩ (q0 := 0) (ci := 4) rfl wdM_0 rfl hl.1 rfl (Nat.le_of_ble_eq_true rfl) dX4_copy_40 ⟨Nat.zero_le _, Nat.zero_le _⟩ (fun H locs hP hD hS => ?_)
        obtain ⟨rfl, rfl⟩ := zq_j2 hf
        exact hret _ _ _ _ rfl dX4_copy_43 hP hD hS
      · have hf := it_f c12 hf
        refine lv_aload_n hx hb dX4_copy_29 rfl (lv_at hl 0 rfl) ?_
        refine gf_X4_62 C0 hP 0 wdM_0 rfl dX4_copy_30 ?_
        refine lv_iload_n hx hb dX4_copy_33 rfl (lv_at hl 3 rfl) ?_
        obtain ⟨v16, ev16, h17, hf⟩ := zq_rd_s hf
        refine zia C0 hP 18 wdM_18 ev16 h17 dX4_copy_34 ?_
        refine lv_if_ge (tgt := 44) hx hb dX4_copy_35 (by decide) (fun c18 => ?_) (fun c18 => ?_)
        · have hf := it_t c18 hf
          refine lv_aload_n hx hb dX4_copy_44 rfl (lv_at hl 0 rfl) ?_
          refine gf_X4_65 C0 hP 0 wdM_0 rfl dX4_copy_45 ?_
          refine lv_iload_n hx hb dX4_copy_48 rfl (lv_at hl 1 rfl) ?_
          obtain ⟨v19, ev19, h20, hf⟩ := zq_rd_s hf
          refine zia C0 hP 19 wdM_19 ev19 h20 dX4_copy_49 ?_
          refine lv_aload_n hx hb dX4_copy_50 rfl (lv_at hl 0 rfl) ?_
          refine gf_X4_65 C0 hP 0 wdM_0 rfl dX4_copy_51 ?_
          refine lv_iload_n hx hb dX4_copy_54 rfl (lv_at hl 3 rfl) ?_
          obtain ⟨v21, ev21, h22, hf⟩ := zq_rd_s hf
          refine zia C0 hP 19 wdM_19 ev21 h22 dX4_copy_55 ?_
          refine lv_icmp_eq (tgt := 65) hx hb dX4_copy_56 (by decide) (fun c23 => ?_) (fun c23 => ?_)
          · have hf := it_t c23 hf
            refine lv_iload_n hx hb dX4_copy_65 rfl (lv_at hl 2 rfl) ?_
            refine lv_iload hx hb dX4_copy_66 (lv_at hl 5 rfl) ?_
            refine lv_i2l hx hb dX4_copy_68 rfl ?_
            refine lv_aload_n hx hb dX4_copy_69 rfl (lv_at hl 0 rfl) ?_
            refine gf_X4_62 C0 hP 0 wdM_0 rfl dX4_copy_70 ?_
            refine lv_iload_n hx hb dX4_copy_73 rfl (lv_at hl 1 rfl) ?_
            obtain ⟨v24, ev24, h25, hf⟩ := zq_rd_s hf
            refine zia C0 hP 18 wdM_18 ev24 h25 dX4_copy_74 ?_
            obtain ⟨r27, hc26, hf⟩ := zq_b1_s hf
            refine zSI (ws' := (wdM ad cy g u)) (rest := []) C0 (fun _ h => h) zF.nil (c_X4_isBeyond hc26) hP hD hS my_X4_isBeyond kl_X4_124 ⟨rfl, rfl⟩ ⟨Nat.le_of_ble_eq_true rfl, Nat.le_of_ble_eq_true rfl⟩ rfl hl.1 rfl (Nat.le_of_ble_eq_true rfl) dX4_copy_75 ⟨Nat.zero_le _, Nat.zero_le _⟩ (fun H locs hP hD hS => ?_)
            refine lv_if_ne (tgt := 98) hx hb dX4_copy_78 (by decide) (fun c28 => ?_) (fun c28 => ?_)
            · have hf := it_f c28 hf
              refine lv_aload_n hx hb dX4_copy_98 rfl (lv_at hl 0 rfl) ?_
              refine lv_iconst (v := 3) hx hb dX4_copy_99 (by decide) ?_
              obtain ⟨r30, g31, hc29, hf⟩ := zq_b2_s hf
              refine zVI (ws' := (wdM ad cy g31 u)) (rest := []) C0 (fun _ h => h) zF.id (c_X4_failed hc29) hP hD hS my_X4_failed kl_X4_120 ⟨rfl, rfl⟩ ⟨Nat.le_of_ble_eq_true rfl, Nat.le_of_ble_eq_true rfl⟩ (q0 := 0) (ci := 4) rfl wdM_0 rfl hl.1 rfl (Nat.le_of_ble_eq_true rfl) dX4_copy_100 ⟨Nat.zero_le _, Nat.zero_le _⟩ (fun H locs hP hD hS => ?_)
              obtain ⟨rfl, rfl⟩ := zq_j2 hf
              exact hret _ _ _ _ rfl dX4_copy_103 hP hD hS
            · have hf := it_t c28 hf
              refine lv_iload hx hb dX4_copy_81 (lv_at hl 4 rfl) ?_
              refine lv_iload hx hb dX4_copy_83 (lv_at hl 5 rfl) ?_
              refine lv_i2l hx hb dX4_copy_85 rfl ?_
              refine lv_aload_n hx hb dX4_copy_86 rfl (lv_at hl 0 rfl) ?_
              refine gf_X4_62 C0 hP 0 wdM_0 rfl dX4_copy_87 ?_
              refine lv_iload_n hx hb dX4_copy_90 rfl (lv_at hl 3 rfl) ?_
              obtain ⟨v32, ev32, h33, hf⟩ := zq_rd_s hf
              refine zia C0 hP 18 wdM_18 ev32 h33 dX4_copy_91 ?_
              obtain ⟨r35, hc34, hf⟩ := zq_b1_s hf
              refine zSI (ws' := (wdM ad cy g u)) (rest := []) C0 (fun _ h => h) zF.nil (c_X4_isBeyond hc34) hP hD hS my_X4_isBeyond kl_X4_124 ⟨rfl, rfl⟩ ⟨Nat.le_of_ble_eq_true rfl, Nat.le_of_ble_eq_true rfl⟩ rfl hl.1 rfl (Nat.le_of_ble_eq_true rfl) dX4_copy_92 ⟨Nat.zero_le _, Nat.zero_le _⟩ (fun H locs hP hD hS => ?_)
              refine lv_if_eq (tgt := 104) hx hb dX4_copy_95 (by decide) (fun c36 => ?_) (fun c36 => ?_)
              · have hf := it_t c36 hf
                refine lv_iconst (v := 0) hx hb dX4_copy_104 (by decide) ?_
                refine lv_istore (lv' := [(6, .int 0), (0, .ref (ad 0)), (1, .int x1), (2, .int x2), (3, .int x3), (4, .int x4), (5, .int x5)]) hx hb dX4_copy_105 hl (by decide) rfl (fun ls hl => ?_)
                obtain ⟨g43, hL42, hf⟩ := zq_b1_s hf
                refine w_X4_copy_L107 C0 (fun H locs ls hP hD hS hl => ?_) 100 0 g hL42 _ _ _ hP hD hS (lv_sub hl [1, 2, 3, 4, 5, 6, 0] rfl)
                refine lv_iconst (v := 0) hx hb dX4_copy_141 (by decide) ?_
                refine lv_istore (lv' := [(6, .int 0), (0, .ref (ad 0)), (3, .int x3), (4, .int x4), (5, .int x5)]) hx hb dX4_copy_142 hl (by decide) rfl (fun ls hl => ?_)
                obtain ⟨g50, hL49, hf⟩ := zq_b1_s hf
                refine w_X4_copy_L144 C0 (fun H locs ls hP hD hS hl => ?_) 100 0 g43 hL49 _ _ _ hP hD hS (lv_sub hl [1, 2, 3, 4, 0] rfl)
                refine lv_aload_n hx hb dX4_copy_179 rfl (lv_at hl 0 rfl) ?_
                refine lv_iload hx hb dX4_copy_180 (lv_at hl 1 rfl) ?_
                obtain ⟨r52, g53, hc51, hf⟩ := zq_b2_s hf
                refine zVI (ws' := (wdM ad cy g53 u)) (rest := []) C0 (fun _ h => h) zF.id (c_X4_refused hc51) hP hD hS my_X4_refused kl_X4_132 ⟨rfl, rfl⟩ ⟨Nat.le_of_ble_eq_true rfl, Nat.le_of_ble_eq_true rfl⟩ (q0 := 0) (ci := 4) rfl wdM_0 rfl hl.1 rfl (Nat.le_of_ble_eq_true rfl) dX4_copy_182 ⟨Nat.zero_le _, Nat.zero_le _⟩ (fun H locs hP hD hS => ?_)
                obtain ⟨rfl, rfl⟩ := zq_j2 hf
                exact hret _ _ _ _ rfl dX4_copy_185 hP hD hS
              · have hf := it_f c36 hf
                refine lv_aload_n hx hb dX4_copy_98 rfl (lv_at hl 0 rfl) ?_
                refine lv_iconst (v := 3) hx hb dX4_copy_99 (by decide) ?_
                obtain ⟨r55, g56, hc54, hf⟩ := zq_b2_s hf
                refine zVI (ws' := (wdM ad cy g56 u)) (rest := []) C0 (fun _ h => h) zF.id (c_X4_failed hc54) hP hD hS my_X4_failed kl_X4_120 ⟨rfl, rfl⟩ ⟨Nat.le_of_ble_eq_true rfl, Nat.le_of_ble_eq_true rfl⟩ (q0 := 0) (ci := 4) rfl wdM_0 rfl hl.1 rfl (Nat.le_of_ble_eq_true rfl) dX4_copy_100 ⟨Nat.zero_le _, Nat.zero_le _⟩ (fun H locs hP hD hS => ?_)
                obtain ⟨rfl, rfl⟩ := zq_j2 hf
                exact hret _ _ _ _ rfl dX4_copy_103 hP hD hS
          · have hf := it_f c23 hf
            refine lv_aload_n hx hb dX4_copy_59 rfl (lv_at hl 0 rfl) ?_
            refine lv_iconst (v := 2) hx hb dX4_copy_60 (by decide) ?_
            obtain ⟨r58, g59, hc57, hf⟩ := zq_b2_s hf
            refine zVI (ws' := (wdM ad cy g59 u)) (rest := []) C0 (fun _ h => h) zF.id (c_X4_failed hc57) hP hD hS my_X4_failed kl_X4_120 ⟨rfl, rfl⟩ ⟨Nat.le_of_ble_eq_true rfl, Nat.le_of_ble_eq_true rfl⟩ (q0 := 0) (ci := 4) rfl wdM_0 rfl hl.1 rfl (Nat.le_of_ble_eq_true rfl) dX4_copy_61 ⟨Nat.zero_le _, Nat.zero_le _⟩ (fun H locs hP hD hS => ?_)
            obtain ⟨rfl, rfl⟩ := zq_j2 hf
            exact hret _ _ _ _ rfl dX4_copy_64 hP hD hS
        · have hf := it_f c18 hf
          refine lv_aload_n hx hb dX4_copy_38 rfl (lv_at hl 0 rfl) ?_
          refine lv_iconst (v := 1) hx hb dX4_copy_39 (by decide) ?_
          obtain ⟨r61, g62, hc60, hf⟩ := zq_b2_s hf
          refine zVI (ws' := (wdM ad cy g62 u)) (rest := []) C0 (fun _ h => h) zF.id (c_X4_failed hc60) hP hD hS my_X4_failed kl_X4_120 ⟨rfl, rfl⟩ ⟨Nat.le_of_ble_eq_true rfl, Nat.le_of_ble_eq_true rfl⟩ (q0 := 0) (ci := 4) rfl wdM_0 rfl hl.1 rfl (Nat.le_of_ble_eq_true rfl) dX4_copy_40 ⟨Nat.zero_le _, Nat.zero_le _⟩ (fun H locs hP hD hS => ?_)
          obtain ⟨rfl, rfl⟩ := zq_j2 hf
          exact hret _ _ _ _ rfl dX4_copy_43 hP hD hS
    · have hf := it_f c9 hf
      refine lv_aload_n hx hb dX4_copy_14 rfl (lv_at hl 0 rfl) ?_
      refine lv_iconst (v := (-1)) hx hb dX4_copy_15 (by decide) ?_
      obtain ⟨r64, g65, hc63, hf⟩ := zq_b2_s hf
      refine zVI (ws' := (wdM ad cy g65 u)) (rest := []) C0 (fun _ h => h) zF.id (c_X4_refused hc63) hP hD hS my_X4_refused kl_X4_132 ⟨rfl, rfl⟩ ⟨Nat.le_of_ble_eq_true rfl, Nat.le_of_ble_eq_true rfl⟩ (q0 := 0) (ci := 4) rfl wdM_0 rfl hl.1 rfl (Nat.le_of_ble_eq_true rfl) dX4_copy_16 ⟨Nat.zero_le _, Nat.zero_le _⟩ (fun H locs hP hD hS => ?_)
      obtain ⟨rfl, rfl⟩ := zq_j2 hf
      exact hret _ _ _ _ rfl dX4_copy_19 hP hD hS

def f_X4_traced (g : zS) (x1 : Int32) : Option (zS) :=
  zq_lt (va_up g 30 (fun _ => ((31 * (g 30 0)) + x1))) (fun g1 =>
  some g1)
set_option maxHeartbeats 4000000 in
set_option maxRecDepth 100000 in
theorem c_X4_traced {l : Launch} {D : va_G} {ad : Nat → Nat} {cy : Nat → ClassId} {g : zS} {u : zJ} {x1 : Int32} {g' : zS} (hf : f_X4_traced g x1 = some g') : zMV l yX4_traced (zW yX4_traced cX4_traced 2 none) { frames := 0, cells := 0, slots := 0, locals := 0 } D cy [.ref (ad 0), .int x1] (wdM ad cy g u) (wdM ad cy g' u) := by
  unfold f_X4_traced at hf
  refine zEV (by decide) (Nat.le_of_ble_eq_true rfl) ?_
  intro p e s9 m9 below meth c A Q C0 hret ls hl hP hD
  have hl : lv_has ls 2 [(0, .ref (ad 0)), (1, .int x1)] := hl
  have hS : va_S A s9.heap s9.heap [] := va_S.rf
  obtain ⟨hx, hb, hml, hown, hts⟩ := id C0.1
  refine lv_aload_n hx hb dX4_traced_0 rfl (lv_at hl 0 rfl) ?_
  refine lv_bipush (v := 31) hx hb dX4_traced_1 (by decide) ?_
  refine lv_aload_n hx hb dX4_traced_3 rfl (lv_at hl 0 rfl) ?_
  refine gf_X4_276 C0 hP 0 wdM_0 rfl dX4_traced_4 ?_
  refine lv_imul hx hb dX4_traced_7 ?_
  refine lv_iload_n hx hb dX4_traced_8 rfl (lv_at hl 1 rfl) ?_
  refine lv_iadd hx hb dX4_traced_9 ?_
  obtain ⟨g1, eg1, hf⟩ := zq_lt_s hf
  refine pf_X4_276 (ws' := (wdM ad cy g1 u)) C0 hP hD hS 0 wdM_0 (Nat.le_of_ble_eq_true rfl) (by rw [eg1]; rfl) dX4_traced_10 (fun H locs hP hD hS => ?_)
  obtain rfl := Option.some.inj hf
  exact hret _ _ _ _ dX4_traced_13 hP hD hS

def f_X4_tell_J51 (j1 : Int32) (j2 : Int32) (g : zS) : Option (Int32 × zS) :=
  zq_rd (g 6) 4 j1 (fun v11 =>
  if j2 = 0 then (
  some (v11, g)) else (
  if j2 = 1 then (
  some ((v11 + 100), g)) else (
  some (((2 * v11) + 100), g))))
def f_X4_tell_J36 (j1 : Int32) (j2 : Int32) (g : zS) : Option (Int32 × zS) :=
  zq_b1 (f_X4_traced g 1) (fun g9 =>
  if j2 = 2 then (
  zq_b1 (f_X4_traced g9 1) (fun g16 =>
  f_X4_tell_J51 j1 j2 g16)) else (
  f_X4_tell_J51 j1 j2 g9))
def f_X4_tell_J27 (j1 : Int32) (j2 : Int32) (g : zS) : Option (Int32 × zS) :=
  if j2 ≤ 0 then (
  f_X4_tell_J36 j1 j2 g) else (
  zq_b1 (f_X4_traced g 2) (fun g18 =>
  f_X4_tell_J36 j1 j2 g18))
def f_X4_tell (g : zS) (x1 : Int32) : Option (Int32 × zS) :=
  zq_b1 (f_X4_noModule g x1) (fun r2 =>
  if r2 = 0 then (
  zq_rd (g 4) 4 x1 (fun v4 =>
  if v4 = 2 then (
  zq_b1 (f_X4_traced g 3) (fun g20 =>
  f_X4_tell_J27 x1 v4 g20)) else (
  f_X4_tell_J27 x1 v4 g))) else (
  some ((-1), g)))
set_option maxHeartbeats 4000000 in
set_option maxRecDepth 100000 in
theorem c_X4_tell {l : Launch} {D : va_G} {ad : Nat → Nat} {cy : Nat → ClassId} {g : zS} {u : zJ} {x1 : Int32} {r0 : Int32} {g' : zS} (hf : f_X4_tell g x1 = some (r0, g')) : zMI l yX4_tell (zW yX4_tell cX4_tell 4 (some .int)) { frames := 2, cells := 0, slots := 0, locals := 46 } D cy [.ref (ad 0), .int x1] (wdM ad cy g u) r0 (wdM ad cy g' u) := by
  unfold f_X4_tell at hf
  refine zEI (ty := .int) (by decide) (Nat.le_of_ble_eq_true rfl) ?_
  intro p e s9 m9 below meth c A Q C0 hret ls hl hP hD
  have hl : lv_has ls 4 [(0, .ref (ad 0)), (1, .int x1)] := hl
  have hS : va_S A s9.heap s9.heap [] := va_S.rf
  obtain ⟨hx, hb, hml, hown, hts⟩ := id C0.1
  have hj51 : ∀ (j1 : Int32) (j2 : Int32) (g : zS), f_X4_tell_J51 j1 j2 g = some (r0, g') → ∀ (H : Heap) (locs : List Loc) (ls : Array Slot), va_P D vwCl (wdM ad cy g u) H → va_D A (wdM ad cy g u) → va_S A s9.heap H locs → lv_has ls 4 [(0, .ref (ad 0)), (1, .int j1), (2, .int j2)] → W p l e { frames := 2, cells := 0, slots := 0, locals := 46 } s9 m9 [.ref (ad 0), .int x1].toArray below meth c H locs 0 0 Q (F0 m9 51 ls []) := by
    intro j1 j2 g hf H locs ls hP hD hS hl
    unfold f_X4_tell_J51 at hf
    refine lv_aload_n hx hb dX4_tell_51 rfl (lv_at hl 0 rfl) ?_
    refine gf_X4_16 C0 hP 0 wdM_0 rfl dX4_tell_52 ?_
    refine lv_iload_n hx hb dX4_tell_55 rfl (lv_at hl 1 rfl) ?_
    obtain ⟨v11, ev11, h12, hf⟩ := zq_rd_s hf
    refine zia C0 hP 3 wdM_3 ev11 h12 dX4_tell_56 ?_
    refine lv_istore_n (lv' := [(3, .int v11), (0, .ref (ad 0)), (1, .int j1), (2, .int j2)]) hx hb dX4_tell_57 rfl hl (by decide) rfl (fun ls hl => ?_)
    refine lv_iload_n hx hb dX4_tell_58 rfl (lv_at hl 3 rfl) ?_
    refine lv_if_ne (tgt := 66) hx hb dX4_tell_59 (by decide) (fun c13 => ?_) (fun c13 => ?_)
    · have hf := it_f c13 hf
      refine lv_iload_n hx hb dX4_tell_66 rfl (lv_at hl 3 rfl) ?_
      refine lv_iconst (v := 1) hx hb dX4_tell_67 (by decide) ?_
      refine lv_icmp_ne (tgt := 78) hx hb dX4_tell_68 (by decide) (fun c14 => ?_) (fun c14 => ?_)
      · have hf := it_f c14 hf
        refine lv_iconst (v := 2) hx hb dX4_tell_78 (by decide) ?_
        refine lv_iload_n hx hb dX4_tell_79 rfl (lv_at hl 0 rfl) ?_
        refine lv_imul hx hb dX4_tell_80 ?_
        refine lv_bipush (v := 100) hx hb dX4_tell_81 (by decide) ?_
        refine lv_iadd hx hb dX4_tell_83 ?_
        obtain ⟨rfl, rfl⟩ := zq_j2 hf
        exact hret _ _ _ _ rfl dX4_tell_84 hP hD hS
      · have hf := it_t c14 hf
        refine lv_iload_n hx hb dX4_tell_71 rfl (lv_at hl 0 rfl) ?_
        refine lv_bipush (v := 100) hx hb dX4_tell_72 (by decide) ?_
        refine lv_iadd hx hb dX4_tell_74 ?_
        refine lv_goto (tgt := 84) hx hb dX4_tell_75 (by decide) ?_
        obtain ⟨rfl, rfl⟩ := zq_j2 hf
        exact hret _ _ _ _ rfl dX4_tell_84 hP hD hS
    · have hf := it_t c13 hf
      refine lv_iload_n hx hb dX4_tell_62 rfl (lv_at hl 0 rfl) ?_
      refine lv_goto (tgt := 84) hx hb dX4_tell_63 (by decide) ?_
      obtain ⟨rfl, rfl⟩ := zq_j2 hf
      exact hret _ _ _ _ rfl dX4_tell_84 hP hD hS
  have hj36 : ∀ (j1 : Int32) (j2 : Int32) (g : zS), f_X4_tell_J36 j1 j2 g = some (r0, g') → ∀ (H : Heap) (locs : List Loc) (ls : Array Slot), va_P D vwCl (wdM ad cy g u) H → va_D A (wdM ad cy g u) → va_S A s9.heap H locs → lv_has ls 4 [(0, .ref (ad 0)), (1, .int j1), (2, .int j2)] → W p l e { frames := 2, cells := 0, slots := 0, locals := 46 } s9 m9 [.ref (ad 0), .int x1].toArray below meth c H locs 0 0 Q (F0 m9 36 ls []) := by
    intro j1 j2 g hf H locs ls hP hD hS hl
    unfold f_X4_tell_J36 at hf
    refine lv_aload_n hx hb dX4_tell_36 rfl (lv_at hl 0 rfl) ?_
    refine lv_iconst (v := 1) hx hb dX4_tell_37 (by decide) ?_
    obtain ⟨g9, hc8, hf⟩ := zq_b1_s hf
    refine zVV (ws' := (wdM ad cy g9 u)) (rest := []) C0 (fun _ h => h) zF.id (c_X4_traced hc8) hP hD hS my_X4_traced kl_X4_279 ⟨rfl, rfl⟩ ⟨Nat.le_of_ble_eq_true rfl, Nat.le_of_ble_eq_true rfl⟩ (q0 := 0) (ci := 4) rfl wdM_0 rfl hl.1 rfl (Nat.le_of_ble_eq_true rfl) dX4_tell_38 ⟨Nat.zero_le _, Nat.zero_le _⟩ (fun H locs hP hD hS => ?_)
    refine lv_iload_n hx hb dX4_tell_41 rfl (lv_at hl 2 rfl) ?_
    refine lv_iconst (v := 2) hx hb dX4_tell_42 (by decide) ?_
    refine lv_icmp_ne (tgt := 51) hx hb dX4_tell_43 (by decide) (fun c10 => ?_) (fun c10 => ?_)
    · have hf := it_f c10 hf
      exact hj51 j1 j2 g9 hf _ _ _ hP hD hS (lv_sub hl [0, 1, 2] rfl)
    · have hf := it_t c10 hf
      refine lv_aload_n hx hb dX4_tell_46 rfl (lv_at hl 0 rfl) ?_
      refine lv_iconst (v := 1) hx hb dX4_tell_47 (by decide) ?_
      obtain ⟨g16, hc15, hf⟩ := zq_b1_s hf
      refine zVV (ws' := (wdM ad cy g16 u)) (rest := []) C0 (fun _ h => h) zF.id (c_X4_traced hc15) hP hD hS my_X4_traced kl_X4_279 ⟨rfl, rfl⟩ ⟨Nat.le_of_ble_eq_true rfl, Nat.le_of_ble_eq_true rfl⟩ (q0 := 0) (ci := 4) rfl wdM_0 rfl hl.1 rfl (Nat.le_of_ble_eq_true rfl) dX4_tell_48 ⟨Nat.zero_le _, Nat.zero_le _⟩ (fun H locs hP hD hS => ?_)
      exact hj51 j1 j2 g16 hf _ _ _ hP hD hS (lv_sub hl [0, 1, 2] rfl)
  have hj27 : ∀ (j1 : Int32) (j2 : Int32) (g : zS), f_X4_tell_J27 j1 j2 g = some (r0, g') → ∀ (H : Heap) (locs : List Loc) (ls : Array Slot), va_P D vwCl (wdM ad cy g u) H → va_D A (wdM ad cy g u) → va_S A s9.heap H locs → lv_has ls 4 [(0, .ref (ad 0)), (1, .int j1), (2, .int j2)] → W p l e { frames := 2, cells := 0, slots := 0, locals := 46 } s9 m9 [.ref (ad 0), .int x1].toArray below meth c H locs 0 0 Q (F0 m9 27 ls []) := by
    intro j1 j2 g hf H locs ls hP hD hS hl
    unfold f_X4_tell_J27 at hf
    refine lv_iload_n hx hb dX4_tell_27 rfl (lv_at hl 2 rfl) ?_
    refine lv_if_le (tgt := 36) hx hb dX4_tell_28 (by decide) (fun c7 => ?_) (fun c7 => ?_)
    · have hf := it_t c7 hf
      exact hj36 j1 j2 g hf _ _ _ hP hD hS (lv_sub hl [0, 1, 2] rfl)
    · have hf := it_f c7 hf
      refine lv_aload_n hx hb dX4_tell_31 rfl (lv_at hl 0 rfl) ?_
      refine lv_iconst (v := 2) hx hb dX4_tell_32 (by decide) ?_
      obtain ⟨g18, hc17, hf⟩ := zq_b1_s hf
      refine zVV (ws' := (wdM ad cy g18 u)) (rest := []) C0 (fun _ h => h) zF.id (c_X4_traced hc17) hP hD hS my_X4_traced kl_X4_279 ⟨rfl, rfl⟩ ⟨Nat.le_of_ble_eq_true rfl, Nat.le_of_ble_eq_true rfl⟩ (q0 := 0) (ci := 4) rfl wdM_0 rfl hl.1 rfl (Nat.le_of_ble_eq_true rfl) dX4_tell_33 ⟨Nat.zero_le _, Nat.zero_le _⟩ (fun H locs hP hD hS => ?_)
      exact hj36 j1 j2 g18 hf _ _ _ hP hD hS (lv_sub hl [0, 1, 2] rfl)
  refine lv_aload_n hx hb dX4_tell_0 rfl (lv_at hl 0 rfl) ?_
  refine lv_iload_n hx hb dX4_tell_1 rfl (lv_at hl 1 rfl) ?_
  obtain ⟨r2, hc1, hf⟩ := zq_b1_s hf
  refine zVI (ws' := (wdM ad cy g u)) (rest := []) C0 (fun _ h => h) zF.id (c_X4_noModule hc1) hP hD hS my_X4_noModule kl_X4_168 ⟨rfl, rfl⟩ ⟨Nat.le_of_ble_eq_true rfl, Nat.le_of_ble_eq_true rfl⟩ (q0 := 0) (ci := 4) rfl wdM_0 rfl hl.1 rfl (Nat.le_of_ble_eq_true rfl) dX4_tell_2 ⟨Nat.zero_le _, Nat.zero_le _⟩ (fun H locs hP hD hS => ?_)
  refine lv_if_eq (tgt := 10) hx hb dX4_tell_5 (by decide) (fun c3 => ?_) (fun c3 => ?_)
  · have hf := it_t c3 hf
    refine lv_aload_n hx hb dX4_tell_10 rfl (lv_at hl 0 rfl) ?_
    refine gf_X4_7 C0 hP 0 wdM_0 rfl dX4_tell_11 ?_
    refine lv_iload_n hx hb dX4_tell_14 rfl (lv_at hl 1 rfl) ?_
    obtain ⟨v4, ev4, h5, hf⟩ := zq_rd_s hf
    refine zia C0 hP 1 wdM_1 ev4 h5 dX4_tell_15 ?_
    refine lv_istore_n (lv' := [(2, .int v4), (0, .ref (ad 0)), (1, .int x1)]) hx hb dX4_tell_16 rfl hl (by decide) rfl (fun ls hl => ?_)
    refine lv_iload_n hx hb dX4_tell_17 rfl (lv_at hl 0 rfl) ?_
    refine lv_iconst (v := 2) hx hb dX4_tell_18 (by decide) ?_
    refine lv_icmp_ne (tgt := 27) hx hb dX4_tell_19 (by decide) (fun c6 => ?_) (fun c6 => ?_)
    · have hf := it_f c6 hf
      exact hj27 x1 v4 g hf _ _ _ hP hD hS (lv_sub hl [1, 2, 0] rfl)
    · have hf := it_t c6 hf
      refine lv_aload_n hx hb dX4_tell_22 rfl (lv_at hl 1 rfl) ?_
      refine lv_iconst (v := 3) hx hb dX4_tell_23 (by decide) ?_
      obtain ⟨g20, hc19, hf⟩ := zq_b1_s hf
      refine zVV (ws' := (wdM ad cy g20 u)) (rest := []) C0 (fun _ h => h) zF.id (c_X4_traced hc19) hP hD hS my_X4_traced kl_X4_279 ⟨rfl, rfl⟩ ⟨Nat.le_of_ble_eq_true rfl, Nat.le_of_ble_eq_true rfl⟩ (q0 := 0) (ci := 4) rfl wdM_0 rfl hl.1 rfl (Nat.le_of_ble_eq_true rfl) dX4_tell_24 ⟨Nat.zero_le _, Nat.zero_le _⟩ (fun H locs hP hD hS => ?_)
      exact hj27 x1 v4 g20 hf _ _ _ hP hD hS (lv_sub hl [1, 2, 0] rfl)
  · have hf := it_f c3 hf
    refine lv_iconst (v := (-1)) hx hb dX4_tell_8 (by decide) ?_
    obtain ⟨rfl, rfl⟩ := zq_j2 hf
    exact hret _ _ _ _ rfl dX4_tell_9 hP hD hS

def f_X4_switchOn_L33 (g : zS) (x1 : Int32) : Nat → Int32 → Int32 → Option (Int32)
  | 0, _, _ => none
  | q9 + 1, x2, x3 =>
  zq_rd (g 6) 4 x1 (fun v9 =>
  if v9 ≤ x3 then (
  some x2) else (
  zq_rd (g 5) 4 x1 (fun v12 =>
  zq_rd (g 8) 16 (v12 + x3) (fun v14 =>
  f_X4_switchOn_L33 g x1 q9 (x2 + v14) (x3 + 1)))))
def f_X4_switchOn (g : zS) (x1 : Int32) : Option (Int32 × zS) :=
  zq_b1 (f_X4_noModule g x1) (fun r2 =>
  if r2 = 0 then (
  zq_rd (g 4) 4 x1 (fun v4 =>
  if v4 = 2 then (
  zq_b1 (f_X4_traced g 5) (fun g22 =>
  zq_b1 (f_X4_switchOn_L33 g22 x1 100 0 0) (fun y24 =>
  zq_rd (g22 4) 4 x1 (fun v25 =>
  if v25 = 2 then (
  some (60, g22)) else (
  some (y24, g22)))))) else (
  zq_b1 (f_X4_traced g 4) (fun g8 =>
  zq_b1 (f_X4_switchOn_L33 g8 x1 100 0 0) (fun y17 =>
  zq_rd (g8 4) 4 x1 (fun v18 =>
  if v18 = 2 then (
  some (60, g8)) else (
  some (y17, g8)))))))) else (
  some ((-1), g)))
set_option maxHeartbeats 4000000 in
set_option maxRecDepth 100000 in
theorem w_X4_switchOn_L33 {l : Launch} {p : Program} {e : Env} {s9 : State} {m9 : MethodId} {ag : Array Value} {below : List Frame} {meth : Method} {c : Code} {A : Nat → Prop} {Q : State → Prop} {D : va_G} {ad : Nat → Nat} {cy : Nat → ClassId} {g : zS} {u : zJ} {x1 : Int32} (C0 : zCx p s9 m9 ag c cX4_switchOn 4 RX4 D cy A)  {o2 : Int32} (e0 : ∀ (H : Heap) (locs : List Loc) (ls : Array Slot), va_P D vwCl (wdM ad cy g u) H → va_D A (wdM ad cy g u) → va_S A s9.heap H locs → lv_has ls 4 [(0, .ref (ad 0)), (1, .int x1), (2, .int o2)] → W p l e { frames := 2, cells := 0, slots := 0, locals := 46 } s9 m9 ag below meth c H locs 0 0 Q (F0 m9 65 ls [])) : ∀ (q9 : Nat) (x2 : Int32) (x3 : Int32), f_X4_switchOn_L33 g x1 q9 x2 x3 = some o2 → ∀ (H : Heap) (locs : List Loc) (ls : Array Slot), va_P D vwCl (wdM ad cy g u) H → va_D A (wdM ad cy g u) → va_S A s9.heap H locs → lv_has ls 4 [(0, .ref (ad 0)), (1, .int x1), (2, .int x2), (3, .int x3)] → W p l e { frames := 2, cells := 0, slots := 0, locals := 46 } s9 m9 ag below meth c H locs 0 0 Q (F0 m9 33 ls []) := by
  obtain ⟨hx, hb, hml, hown, hts⟩ := id C0.1
  intro q9
  induction q9 with
  | zero =>
    intro x2 x3 hf
    rw [f_X4_switchOn_L33] at hf
    cases hf
  | succ q9 ih =>
    intro x2 x3 hf H locs ls hP hD hS hl
    rw [f_X4_switchOn_L33] at hf
    refine lv_iload_n hx hb dX4_switchOn_33 rfl (lv_at hl 3 rfl) ?_
    refine lv_aload_n hx hb dX4_switchOn_34 rfl (lv_at hl 0 rfl) ?_
    refine gf_X4_16 C0 hP 0 wdM_0 rfl dX4_switchOn_35 ?_
    refine lv_iload_n hx hb dX4_switchOn_38 rfl (lv_at hl 1 rfl) ?_
    obtain ⟨v9, ev9, h10, hf⟩ := zq_rd_s hf
    refine zia C0 hP 3 wdM_3 ev9 h10 dX4_switchOn_39 ?_
    refine lv_icmp_ge (tgt := 65) hx hb dX4_switchOn_40 (by decide) (fun c11 => ?_) (fun c11 => ?_)
    · have hf := it_t c11 hf
      obtain rfl := Option.some.inj hf
      exact e0 _ _ _ hP hD hS (lv_sub hl [0, 1, 2] rfl)
    · have hf := it_f c11 hf
      refine lv_iload_n hx hb dX4_switchOn_43 rfl (lv_at hl 2 rfl) ?_
      refine lv_aload_n hx hb dX4_switchOn_44 rfl (lv_at hl 0 rfl) ?_
      refine gf_X4_22 C0 hP 0 wdM_0 rfl dX4_switchOn_45 ?_
      refine lv_aload_n hx hb dX4_switchOn_48 rfl (lv_at hl 0 rfl) ?_
      refine gf_X4_13 C0 hP 0 wdM_0 rfl dX4_switchOn_49 ?_
      refine lv_iload_n hx hb dX4_switchOn_52 rfl (lv_at hl 1 rfl) ?_
      obtain ⟨v12, ev12, h13, hf⟩ := zq_rd_s hf
      refine zia C0 hP 2 wdM_2 ev12 h13 dX4_switchOn_53 ?_
      refine lv_iload_n hx hb dX4_switchOn_54 rfl (lv_at hl 3 rfl) ?_
      refine lv_iadd hx hb dX4_switchOn_55 ?_
      obtain ⟨v14, ev14, h15, hf⟩ := zq_rd_s hf
      refine zia C0 hP 5 wdM_5 ev14 h15 dX4_switchOn_56 ?_
      refine lv_iadd hx hb dX4_switchOn_57 ?_
      refine lv_istore_n (lv' := [(2, .int (x2 + v14)), (0, .ref (ad 0)), (1, .int x1), (3, .int x3)]) hx hb dX4_switchOn_58 rfl hl (by decide) rfl (fun ls hl => ?_)
      refine lv_iinc (v := (x3 + 1)) (lv' := [(3, .int (x3 + 1)), (2, .int (x2 + v14)), (0, .ref (ad 0)), (1, .int x1)]) hx hb dX4_switchOn_59 hl (k := 3) rfl rfl (by decide) rfl (fun ls hl => ?_)
      refine lv_goto (tgt := 33) hx hb dX4_switchOn_62 (by decide) ?_
      exact ih (x2 + v14) (x3 + 1) hf _ _ _ hP hD hS (lv_sub hl [2, 3, 1, 0] rfl)
set_option maxHeartbeats 4000000 in
set_option maxRecDepth 100000 in
theorem c_X4_switchOn {l : Launch} {D : va_G} {ad : Nat → Nat} {cy : Nat → ClassId} {g : zS} {u : zJ} {x1 : Int32} {r0 : Int32} {g' : zS} (hf : f_X4_switchOn g x1 = some (r0, g')) : zMI l yX4_switchOn (zW yX4_switchOn cX4_switchOn 4 (some .int)) { frames := 2, cells := 0, slots := 0, locals := 46 } D cy [.ref (ad 0), .int x1] (wdM ad cy g u) r0 (wdM ad cy g' u) := by
  unfold f_X4_switchOn at hf
  refine zEI (ty := .int) (by decide) (Nat.le_of_ble_eq_true rfl) ?_
  intro p e s9 m9 below meth c A Q C0 hret ls hl hP hD
  have hl : lv_has ls 4 [(0, .ref (ad 0)), (1, .int x1)] := hl
  have hS : va_S A s9.heap s9.heap [] := va_S.rf
  obtain ⟨hx, hb, hml, hown, hts⟩ := id C0.1
  refine lv_aload_n hx hb dX4_switchOn_0 rfl (lv_at hl 0 rfl) ?_
  refine lv_iload_n hx hb dX4_switchOn_1 rfl (lv_at hl 1 rfl) ?_
  obtain ⟨r2, hc1, hf⟩ := zq_b1_s hf
  refine zVI (ws' := (wdM ad cy g u)) (rest := []) C0 (fun _ h => h) zF.id (c_X4_noModule hc1) hP hD hS my_X4_noModule kl_X4_168 ⟨rfl, rfl⟩ ⟨Nat.le_of_ble_eq_true rfl, Nat.le_of_ble_eq_true rfl⟩ (q0 := 0) (ci := 4) rfl wdM_0 rfl hl.1 rfl (Nat.le_of_ble_eq_true rfl) dX4_switchOn_2 ⟨Nat.zero_le _, Nat.zero_le _⟩ (fun H locs hP hD hS => ?_)
  refine lv_if_eq (tgt := 10) hx hb dX4_switchOn_5 (by decide) (fun c3 => ?_) (fun c3 => ?_)
  · have hf := it_t c3 hf
    refine lv_aload_n hx hb dX4_switchOn_10 rfl (lv_at hl 0 rfl) ?_
    refine lv_aload_n hx hb dX4_switchOn_11 rfl (lv_at hl 0 rfl) ?_
    refine gf_X4_7 C0 hP 0 wdM_0 rfl dX4_switchOn_12 ?_
    refine lv_iload_n hx hb dX4_switchOn_15 rfl (lv_at hl 1 rfl) ?_
    obtain ⟨v4, ev4, h5, hf⟩ := zq_rd_s hf
    refine zia C0 hP 1 wdM_1 ev4 h5 dX4_switchOn_16 ?_
    refine lv_iconst (v := 2) hx hb dX4_switchOn_17 (by decide) ?_
    refine lv_icmp_ne (tgt := 25) hx hb dX4_switchOn_18 (by decide) (fun c6 => ?_) (fun c6 => ?_)
    · have hf := it_f c6 hf
      refine lv_iconst (v := 4) hx hb dX4_switchOn_25 (by decide) ?_
      obtain ⟨g8, hc7, hf⟩ := zq_b1_s hf
      refine zVV (ws' := (wdM ad cy g8 u)) (rest := []) C0 (fun _ h => h) zF.id (c_X4_traced hc7) hP hD hS my_X4_traced kl_X4_279 ⟨rfl, rfl⟩ ⟨Nat.le_of_ble_eq_true rfl, Nat.le_of_ble_eq_true rfl⟩ (q0 := 0) (ci := 4) rfl wdM_0 rfl hl.1 rfl (Nat.le_of_ble_eq_true rfl) dX4_switchOn_26 ⟨Nat.zero_le _, Nat.zero_le _⟩ (fun H locs hP hD hS => ?_)
      refine lv_iconst (v := 0) hx hb dX4_switchOn_29 (by decide) ?_
      refine lv_istore_n (lv' := [(2, .int 0), (0, .ref (ad 0)), (1, .int x1)]) hx hb dX4_switchOn_30 rfl hl (by decide) rfl (fun ls hl => ?_)
      refine lv_iconst (v := 0) hx hb dX4_switchOn_31 (by decide) ?_
      refine lv_istore_n (lv' := [(3, .int 0), (2, .int 0), (0, .ref (ad 0)), (1, .int x1)]) hx hb dX4_switchOn_32 rfl hl (by decide) rfl (fun ls hl => ?_)
      obtain ⟨y17, hL16, hf⟩ := zq_b1_s hf
      refine w_X4_switchOn_L33 C0 (fun H locs ls hP hD hS hl => ?_) 100 0 0 hL16 _ _ _ hP hD hS (lv_sub hl [2, 3, 1, 0] rfl)
      refine lv_aload_n hx hb dX4_switchOn_65 rfl (lv_at hl 0 rfl) ?_
      refine gf_X4_7 C0 hP 0 wdM_0 rfl dX4_switchOn_66 ?_
      refine lv_iload_n hx hb dX4_switchOn_69 rfl (lv_at hl 1 rfl) ?_
      obtain ⟨v18, ev18, h19, hf⟩ := zq_rd_s hf
      refine zia C0 hP 1 wdM_1 ev18 h19 dX4_switchOn_70 ?_
      refine lv_iconst (v := 2) hx hb dX4_switchOn_71 (by decide) ?_
      refine lv_icmp_ne (tgt := 80) hx hb dX4_switchOn_72 (by decide) (fun c20 => ?_) (fun c20 => ?_)
      · have hf := it_f c20 hf
        refine lv_iload_n hx hb dX4_switchOn_80 rfl (lv_at hl 2 rfl) ?_
        obtain ⟨rfl, rfl⟩ := zq_j2 hf
        exact hret _ _ _ _ rfl dX4_switchOn_81 hP hD hS
      · have hf := it_t c20 hf
        refine lv_bipush (v := 60) hx hb dX4_switchOn_75 (by decide) ?_
        refine lv_goto (tgt := 81) hx hb dX4_switchOn_77 (by decide) ?_
        obtain ⟨rfl, rfl⟩ := zq_j2 hf
        exact hret _ _ _ _ rfl dX4_switchOn_81 hP hD hS
    · have hf := it_t c6 hf
      refine lv_iconst (v := 5) hx hb dX4_switchOn_21 (by decide) ?_
      refine lv_goto (tgt := 26) hx hb dX4_switchOn_22 (by decide) ?_
      obtain ⟨g22, hc21, hf⟩ := zq_b1_s hf
      refine zVV (ws' := (wdM ad cy g22 u)) (rest := []) C0 (fun _ h => h) zF.id (c_X4_traced hc21) hP hD hS my_X4_traced kl_X4_279 ⟨rfl, rfl⟩ ⟨Nat.le_of_ble_eq_true rfl, Nat.le_of_ble_eq_true rfl⟩ (q0 := 0) (ci := 4) rfl wdM_0 rfl hl.1 rfl (Nat.le_of_ble_eq_true rfl) dX4_switchOn_26 ⟨Nat.zero_le _, Nat.zero_le _⟩ (fun H locs hP hD hS => ?_)
      refine lv_iconst (v := 0) hx hb dX4_switchOn_29 (by decide) ?_
      refine lv_istore_n (lv' := [(2, .int 0), (0, .ref (ad 0)), (1, .int x1)]) hx hb dX4_switchOn_30 rfl hl (by decide) rfl (fun ls hl => ?_)
      refine lv_iconst (v := 0) hx hb dX4_switchOn_31 (by decide) ?_
      refine lv_istore_n (lv' := [(3, .int 0), (2, .int 0), (0, .ref (ad 0)), (1, .int x1)]) hx hb dX4_switchOn_32 rfl hl (by decide) rfl (fun ls hl => ?_)
      obtain ⟨y24, hL23, hf⟩ := zq_b1_s hf
      refine w_X4_switchOn_L33 C0 (fun H locs ls hP hD hS hl => ?_) 100 0 0 hL23 _ _ _ hP hD hS (lv_sub hl [2, 3, 1, 0] rfl)
      refine lv_aload_n hx hb dX4_switchOn_65 rfl (lv_at hl 0 rfl) ?_
      refine gf_X4_7 C0 hP 0 wdM_0 rfl dX4_switchOn_66 ?_
      refine lv_iload_n hx hb dX4_switchOn_69 rfl (lv_at hl 1 rfl) ?_
      obtain ⟨v25, ev25, h26, hf⟩ := zq_rd_s hf
      refine zia C0 hP 1 wdM_1 ev25 h26 dX4_switchOn_70 ?_
      refine lv_iconst (v := 2) hx hb dX4_switchOn_71 (by decide) ?_
      refine lv_icmp_ne (tgt := 80) hx hb dX4_switchOn_72 (by decide) (fun c27 => ?_) (fun c27 => ?_)
      · have hf := it_f c27 hf
        refine lv_iload_n hx hb dX4_switchOn_80 rfl (lv_at hl 2 rfl) ?_
        obtain ⟨rfl, rfl⟩ := zq_j2 hf
        exact hret _ _ _ _ rfl dX4_switchOn_81 hP hD hS
      · have hf := it_t c27 hf
        refine lv_bipush (v := 60) hx hb dX4_switchOn_75 (by decide) ?_
        refine lv_goto (tgt := 81) hx hb dX4_switchOn_77 (by decide) ?_
        obtain ⟨rfl, rfl⟩ := zq_j2 hf
        exact hret _ _ _ _ rfl dX4_switchOn_81 hP hD hS
  · have hf := it_f c3 hf
    refine lv_iconst (v := (-1)) hx hb dX4_switchOn_8 (by decide) ?_
    obtain ⟨rfl, rfl⟩ := zq_j2 hf
    exact hret _ _ _ _ rfl dX4_switchOn_9 hP hD hS

def f_X4_as (g : zS) (x1 : Int32) (x2 : Int32) : Option (Int32 × zS) :=
  zq_b1 (f_X4_noModule g x1) (fun r2 =>
  if r2 = 0 then (
  zq_b1 (f_X4_in (Int32.toInt64 x2) 0 2) (fun r5 =>
  if r5 = 0 then (
  zq_b2 (f_X4_refused g (-2)) (fun r17 g18 =>
  some (r17, g18))) else (
  zq_rd (g 4) 4 x1 (fun v7 =>
  if v7 < x2 then (
  zq_b2 (f_X4_failed g 2) (fun r11 g12 =>
  some (r11, g12))) else (
  zq_b2 (f_X4_refused g 1) (fun r14 g15 =>
  some (r14, g15))))))) else (
  zq_b2 (f_X4_refused g (-1)) (fun r20 g21 =>
  some (r20, g21))))
set_option maxHeartbeats 4000000 in
set_option maxRecDepth 100000 in
theorem c_X4_as {l : Launch} {D : va_G} {ad : Nat → Nat} {cy : Nat → ClassId} {g : zS} {u : zJ} {x1 : Int32} {x2 : Int32} {r0 : Int32} {g' : zS} (hf : f_X4_as g x1 x2 = some (r0, g')) : zMI l yX4_as (zW yX4_as cX4_as 3 (some .int)) { frames := 2, cells := 0, slots := 0, locals := 46 } D cy [.ref (ad 0), .int x1, .int x2] (wdM ad cy g u) r0 (wdM ad cy g' u) := by
  unfold f_X4_as at hf
  refine zEI (ty := .int) (by decide) (Nat.le_of_ble_eq_true rfl) ?_
  intro p e s9 m9 below meth c A Q C0 hret ls hl hP hD
  have hl : lv_has ls 3 [(0, .ref (ad 0)), (1, .int x1), (2, .int x2)] := hl
  have hS : va_S A s9.heap s9.heap [] := va_S.rf
  obtain ⟨hx, hb, hml, hown, hts⟩ := id C0.1
  refine lv_aload_n hx hb dX4_as_0 rfl (lv_at hl 0 rfl) ?_
  refine lv_iload_n hx hb dX4_as_1 rfl (lv_at hl 1 rfl) ?_
  obtain ⟨r2, hc1, hf⟩ := zq_b1_s hf
  refine zVI (ws' := (wdM ad cy g u)) (rest := []) C0 (fun _ h => h) zF.id (c_X4_noModule hc1) hP hD hS my_X4_noModule kl_X4_168 ⟨rfl, rfl⟩ ⟨Nat.le_of_ble_eq_true rfl, Nat.le_of_ble_eq_true rfl⟩ (q0 := 0) (ci := 4) rfl wdM_0 rfl hl.1 rfl (Nat.le_of_ble_eq_true rfl) dX4_as_2 ⟨Nat.zero_le _, Nat.zero_le _⟩ (fun H locs hP hD hS => ?_)
  refine lv_if_eq (tgt := 14) hx hb dX4_as_5 (by decide) (fun c3 => ?_) (fun c3 => ?_)
  · have hf := it_t c3 hf
    refine lv_iload_n hx hb dX4_as_14 rfl (lv_at hl 2 rfl) ?_
    refine lv_i2l hx hb dX4_as_15 rfl ?_
    refine lv_lconst (v := 0) hx hb dX4_as_16 (by decide) ?_
    refine lv_ldc2 hx hb hown (hts _ kc_X4_135) dX4_as_17 ?_
    obtain ⟨r5, hc4, hf⟩ := zq_b1_s hf
    refine zSI (ws' := (wdM ad cy g u)) (rest := []) C0 (fun _ h => h) zF.nil (c_X4_in hc4) hP hD hS my_X4_in kl_X4_87 ⟨rfl, rfl⟩ ⟨Nat.le_of_ble_eq_true rfl, Nat.le_of_ble_eq_true rfl⟩ rfl hl.1 rfl (Nat.le_of_ble_eq_true rfl) dX4_as_20 ⟨Nat.zero_le _, Nat.zero_le _⟩ (fun H locs hP hD hS => ?_)
    refine lv_if_ne (tgt := 33) hx hb dX4_as_23 (by decide) (fun c6 => ?_) (fun c6 => ?_)
    · have hf := it_f c6 hf
      refine lv_aload_n hx hb dX4_as_33 rfl (lv_at hl 0 rfl) ?_
      refine gf_X4_7 C0 hP 0 wdM_0 rfl dX4_as_34 ?_
      refine lv_iload_n hx hb dX4_as_37 rfl (lv_at hl 1 rfl) ?_
      obtain ⟨v7, ev7, h8, hf⟩ := zq_rd_s hf
      refine zia C0 hP 1 wdM_1 ev7 h8 dX4_as_38 ?_
      refine lv_iload_n hx hb dX4_as_39 rfl (lv_at hl 2 rfl) ?_
      refine lv_icmp_lt (tgt := 51) hx hb dX4_as_40 (by decide) (fun c9 => ?_) (fun c9 => ?_)
      · have hf := it_t c9 hf
        refine lv_aload_n hx hb dX4_as_51 rfl (lv_at hl 0 rfl) ?_
        refine lv_iconst (v := 2) hx hb dX4_as_52 (by decide) ?_
        obtain ⟨r11, g12, hc10, hf⟩ := zq_b2_s hf
        refine zVI (ws' := (wdM ad cy g12 u)) (rest := []) C0 (fun _ h => h) zF.id (c_X4_failed hc10) hP hD hS my_X4_failed kl_X4_120 ⟨rfl, rfl⟩ ⟨Nat.le_of_ble_eq_true rfl, Nat.le_of_ble_eq_true rfl⟩ (q0 := 0) (ci := 4) rfl wdM_0 rfl hl.1 rfl (Nat.le_of_ble_eq_true rfl) dX4_as_53 ⟨Nat.zero_le _, Nat.zero_le _⟩ (fun H locs hP hD hS => ?_)
        obtain ⟨rfl, rfl⟩ := zq_j2 hf
        exact hret _ _ _ _ rfl dX4_as_56 hP hD hS
      · have hf := it_f c9 hf
        refine lv_aload_n hx hb dX4_as_43 rfl (lv_at hl 0 rfl) ?_
        refine lv_iconst (v := 1) hx hb dX4_as_44 (by decide) ?_
        obtain ⟨r14, g15, hc13, hf⟩ := zq_b2_s hf
        refine zVI (ws' := (wdM ad cy g15 u)) (rest := []) C0 (fun _ h => h) zF.id (c_X4_refused hc13) hP hD hS my_X4_refused kl_X4_132 ⟨rfl, rfl⟩ ⟨Nat.le_of_ble_eq_true rfl, Nat.le_of_ble_eq_true rfl⟩ (q0 := 0) (ci := 4) rfl wdM_0 rfl hl.1 rfl (Nat.le_of_ble_eq_true rfl) dX4_as_45 ⟨Nat.zero_le _, Nat.zero_le _⟩ (fun H locs hP hD hS => ?_)
        refine lv_goto (tgt := 56) hx hb dX4_as_48 (by decide) ?_
        obtain ⟨rfl, rfl⟩ := zq_j2 hf
        exact hret _ _ _ _ rfl dX4_as_56 hP hD hS
    · have hf := it_t c6 hf
      refine lv_aload_n hx hb dX4_as_26 rfl (lv_at hl 0 rfl) ?_
      refine lv_bipush (v := (-2)) hx hb dX4_as_27 (by decide) ?_
      obtain ⟨r17, g18, hc16, hf⟩ := zq_b2_s hf
      refine zVI (ws' := (wdM ad cy g18 u)) (rest := []) C0 (fun _ h => h) zF.id (c_X4_refused hc16) hP hD hS my_X4_refused kl_X4_132 ⟨rfl, rfl⟩ ⟨Nat.le_of_ble_eq_true rfl, Nat.le_of_ble_eq_true rfl⟩ (q0 := 0) (ci := 4) rfl wdM_0 rfl hl.1 rfl (Nat.le_of_ble_eq_true rfl) dX4_as_29 ⟨Nat.zero_le _, Nat.zero_le _⟩ (fun H locs hP hD hS => ?_)
      obtain ⟨rfl, rfl⟩ := zq_j2 hf
      exact hret _ _ _ _ rfl dX4_as_32 hP hD hS
  · have hf := it_f c3 hf
    refine lv_aload_n hx hb dX4_as_8 rfl (lv_at hl 0 rfl) ?_
    refine lv_iconst (v := (-1)) hx hb dX4_as_9 (by decide) ?_
    obtain ⟨r20, g21, hc19, hf⟩ := zq_b2_s hf
    refine zVI (ws' := (wdM ad cy g21 u)) (rest := []) C0 (fun _ h => h) zF.id (c_X4_refused hc19) hP hD hS my_X4_refused kl_X4_132 ⟨rfl, rfl⟩ ⟨Nat.le_of_ble_eq_true rfl, Nat.le_of_ble_eq_true rfl⟩ (q0 := 0) (ci := 4) rfl wdM_0 rfl hl.1 rfl (Nat.le_of_ble_eq_true rfl) dX4_as_10 ⟨Nat.zero_le _, Nat.zero_le _⟩ (fun H locs hP hD hS => ?_)
    obtain ⟨rfl, rfl⟩ := zq_j2 hf
    exact hret _ _ _ _ rfl dX4_as_13 hP hD hS

def f_X4_trace (g : zS)  : Option (Int32) :=
  some (g 30 0)
set_option maxHeartbeats 4000000 in
set_option maxRecDepth 100000 in
theorem c_X4_trace {l : Launch} {D : va_G} {ad : Nat → Nat} {cy : Nat → ClassId} {g : zS} {u : zJ}  {r0 : Int32} (hf : f_X4_trace g = some r0) : zMI l yX4_trace (zW yX4_trace cX4_trace 1 (some .int)) { frames := 0, cells := 0, slots := 0, locals := 0 } D cy [.ref (ad 0)] (wdM ad cy g u) r0 (wdM ad cy g u) := by
  unfold f_X4_trace at hf
  refine zEI (ty := .int) (by decide) (Nat.le_of_ble_eq_true rfl) ?_
  intro p e s9 m9 below meth c A Q C0 hret ls hl hP hD
  have hl : lv_has ls 1 [(0, .ref (ad 0))] := hl
  have hS : va_S A s9.heap s9.heap [] := va_S.rf
  obtain ⟨hx, hb, hml, hown, hts⟩ := id C0.1
  refine lv_aload_n hx hb dX4_trace_0 rfl (lv_at hl 0 rfl) ?_
  refine gf_X4_276 C0 hP 0 wdM_0 rfl dX4_trace_1 ?_
  obtain rfl := Option.some.inj hf
  exact hret _ _ _ _ rfl dX4_trace_4 hP hD hS

def f_X4_fault (g : zS)  : Option (Int32) :=
  some (g 0 0)
set_option maxHeartbeats 4000000 in
set_option maxRecDepth 100000 in
theorem c_X4_fault {l : Launch} {D : va_G} {ad : Nat → Nat} {cy : Nat → ClassId} {g : zS} {u : zJ}  {r0 : Int32} (hf : f_X4_fault g = some r0) : zMI l yX4_fault (zW yX4_fault cX4_fault 1 (some .int)) { frames := 0, cells := 0, slots := 0, locals := 0 } D cy [.ref (ad 0)] (wdM ad cy g u) r0 (wdM ad cy g u) := by
  unfold f_X4_fault at hf
  refine zEI (ty := .int) (by decide) (Nat.le_of_ble_eq_true rfl) ?_
  intro p e s9 m9 below meth c A Q C0 hret ls hl hP hD
  have hl : lv_has ls 1 [(0, .ref (ad 0))] := hl
  have hS : va_S A s9.heap s9.heap [] := va_S.rf
  obtain ⟨hx, hb, hml, hown, hts⟩ := id C0.1
  refine lv_aload_n hx hb dX4_fault_0 rfl (lv_at hl 0 rfl) ?_
  refine gf_X4_76 C0 hP 0 wdM_0 rfl dX4_fault_1 ?_
  obtain rfl := Option.some.inj hf
  exact hret _ _ _ _ rfl dX4_fault_4 hP hD hS

def f_X4_many_L4 (g : zS) : Nat → Int32 → Int32 → Option (Int32)
  | 0, _, _ => none
  | q9 + 1, x2, x3 =>
  if (g 1 0) ≤ x3 then (
  some x2) else (
  zq_rd (g 7) 4 x3 (fun v2 =>
  f_X4_many_L4 g q9 (x2 + v2) (x3 + 1)))
def f_X4_many (g : zS) (x1 : Int32) : Option (Int32) :=
  zq_b1 (f_X4_many_L4 g 100 0 0) (fun y5 =>
  if x1 = 0 then (
  some (g 1 0)) else (
  if x1 = 1 then (
  some (g 2 0)) else (
  if x1 = 2 then (
  some y5) else (
  if x1 = 3 then (
  zq_b1 (f_X4_lightOfAll g) (fun r11 =>
  some r11)) else (
  if x1 = 4 then (
  some (g 21 0)) else (
  if x1 = 5 then (
  some (g 3 0)) else (
  some (-2))))))))
set_option maxHeartbeats 4000000 in
set_option maxRecDepth 100000 in
theorem w_X4_many_L4 {l : Launch} {p : Program} {e : Env} {s9 : State} {m9 : MethodId} {ag : Array Value} {below : List Frame} {meth : Method} {c : Code} {A : Nat → Prop} {Q : State → Prop} {D : va_G} {ad : Nat → Nat} {cy : Nat → ClassId} {g : zS} {u : zJ} {x1 : Int32} (C0 : zCx p s9 m9 ag c cX4_many 4 RX4 D cy A)  {o2 : Int32} (e0 : ∀ (H : Heap) (locs : List Loc) (ls : Array Slot), va_P D vwCl (wdM ad cy g u) H → va_D A (wdM ad cy g u) → va_S A s9.heap H locs → lv_has ls 4 [(0, .ref (ad 0)), (1, .int x1), (2, .int o2)] → W p l e { frames := 3, cells := 0, slots := 0, locals := 65 } s9 m9 ag below meth c H locs 0 0 Q (F0 m9 27 ls [])) : ∀ (q9 : Nat) (x2 : Int32) (x3 : Int32), f_X4_many_L4 g q9 x2 x3 = some o2 → ∀ (H : Heap) (locs : List Loc) (ls : Array Slot), va_P D vwCl (wdM ad cy g u) H → va_D A (wdM ad cy g u) → va_S A s9.heap H locs → lv_has ls 4 [(0, .ref (ad 0)), (1, .int x1), (2, .int x2), (3, .int x3)] → W p l e { frames := 3, cells := 0, slots := 0, locals := 65 } s9 m9 ag below meth c H locs 0 0 Q (F0 m9 4 ls []) := by
  obtain ⟨hx, hb, hml, hown, hts⟩ := id C0.1
  intro q9
  induction q9 with
  | zero =>
    intro x2 x3 hf
    rw [f_X4_many_L4] at hf
    cases hf
  | succ q9 ih =>
    intro x2 x3 hf H locs ls hP hD hS hl
    rw [f_X4_many_L4] at hf
    refine lv_iload_n hx hb dX4_many_4 rfl (lv_at hl 3 rfl) ?_
    refine lv_aload_n hx hb dX4_many_5 rfl (lv_at hl 0 rfl) ?_
    refine gf_X4_84 C0 hP 0 wdM_0 rfl dX4_many_6 ?_
    refine lv_icmp_ge (tgt := 27) hx hb dX4_many_9 (by decide) (fun c1 => ?_) (fun c1 => ?_)
    · have hf := it_t c1 hf
      obtain rfl := Option.some.inj hf
      exact e0 _ _ _ hP hD hS (lv_sub hl [0, 1, 2] rfl)
    · have hf := it_f c1 hf
      refine lv_iload_n hx hb dX4_many_12 rfl (lv_at hl 2 rfl) ?_
      refine lv_aload_n hx hb dX4_many_13 rfl (lv_at hl 0 rfl) ?_
      refine gf_X4_19 C0 hP 0 wdM_0 rfl dX4_many_14 ?_
      refine lv_iload_n hx hb dX4_many_17 rfl (lv_at hl 3 rfl) ?_
      obtain ⟨v2, ev2, h3, hf⟩ := zq_rd_s hf
      refine zia C0 hP 4 wdM_4 ev2 h3 dX4_many_18 ?_
      refine lv_iadd hx hb dX4_many_19 ?_
      refine lv_istore_n (lv' := [(2, .int (x2 + v2)), (0, .ref (ad 0)), (1, .int x1), (3, .int x3)]) hx hb dX4_many_20 rfl hl (by decide) rfl (fun ls hl => ?_)
      refine lv_iinc (v := (x3 + 1)) (lv' := [(3, .int (x3 + 1)), (2, .int (x2 + v2)), (0, .ref (ad 0)), (1, .int x1)]) hx hb dX4_many_21 hl (k := 3) rfl rfl (by decide) rfl (fun ls hl => ?_)
      refine lv_goto (tgt := 4) hx hb dX4_many_24 (by decide) ?_
      exact ih (x2 + v2) (x3 + 1) hf _ _ _ hP hD hS (lv_sub hl [2, 3, 1, 0] rfl)
set_option maxHeartbeats 4000000 in
set_option maxRecDepth 100000 in
theorem c_X4_many {l : Launch} {D : va_G} {ad : Nat → Nat} {cy : Nat → ClassId} {g : zS} {u : zJ} {x1 : Int32} {r0 : Int32} (hf : f_X4_many g x1 = some r0) : zMI l yX4_many (zW yX4_many cX4_many 4 (some .int)) { frames := 3, cells := 0, slots := 0, locals := 65 } D cy [.ref (ad 0), .int x1] (wdM ad cy g u) r0 (wdM ad cy g u) := by
  unfold f_X4_many at hf
  refine zEI (ty := .int) (by decide) (Nat.le_of_ble_eq_true rfl) ?_
  intro p e s9 m9 below meth c A Q C0 hret ls hl hP hD
  have hl : lv_has ls 4 [(0, .ref (ad 0)), (1, .int x1)] := hl
  have hS : va_S A s9.heap s9.heap [] := va_S.rf
  obtain ⟨hx, hb, hml, hown, hts⟩ := id C0.1
  refine lv_iconst (v := 0) hx hb dX4_many_0 (by decide) ?_
  refine lv_istore_n (lv' := [(2, .int 0), (0, .ref (ad 0)), (1, .int x1)]) hx hb dX4_many_1 rfl hl (by decide) rfl (fun ls hl => ?_)
  refine lv_iconst (v := 0) hx hb dX4_many_2 (by decide) ?_
  refine lv_istore_n (lv' := [(3, .int 0), (2, .int 0), (0, .ref (ad 0)), (1, .int x1)]) hx hb dX4_many_3 rfl hl (by decide) rfl (fun ls hl => ?_)
  obtain ⟨y5, hL4, hf⟩ := zq_b1_s hf
  refine w_X4_many_L4 C0 (fun H locs ls hP hD hS hl => ?_) 100 0 0 hL4 _ _ _ hP hD hS (lv_sub hl [2, 3, 1, 0] rfl)
  refine lv_iload_n hx hb dX4_many_27 rfl (lv_at hl 1 rfl) ?_
  by_cases c6 : x1 = 0
  · have hf := it_t c6 hf
    refine lv_tableIn (off := 40) (tgt := 68) hx hb dX4_many_28 (by rw [c6]; decide) (by rw [c6]; decide) (by rw [c6]; rfl) (by decide) ?_
    refine lv_aload_n hx hb dX4_many_68 rfl (lv_at hl 0 rfl) ?_
    refine gf_X4_84 C0 hP 0 wdM_0 rfl dX4_many_69 ?_
    obtain rfl := Option.some.inj hf
    exact hret _ _ _ _ rfl dX4_many_72 hP hD hS
  have hf := it_f c6 hf
  by_cases c7 : x1 = 1
  · have hf := it_t c7 hf
    refine lv_tableIn (off := 45) (tgt := 73) hx hb dX4_many_28 (by rw [c7]; decide) (by rw [c7]; decide) (by rw [c7]; rfl) (by decide) ?_
    refine lv_aload_n hx hb dX4_many_73 rfl (lv_at hl 0 rfl) ?_
    refine gf_X4_91 C0 hP 0 wdM_0 rfl dX4_many_74 ?_
    obtain rfl := Option.some.inj hf
    exact hret _ _ _ _ rfl dX4_many_77 hP hD hS
  have hf := it_f c7 hf
  by_cases c8 : x1 = 2
  · have hf := it_t c8 hf
    refine lv_tableIn (off := 50) (tgt := 78) hx hb dX4_many_28 (by rw [c8]; decide) (by rw [c8]; decide) (by rw [c8]; rfl) (by decide) ?_
    refine lv_iload_n hx hb dX4_many_78 rfl (lv_at hl 2 rfl) ?_
    obtain rfl := Option.some.inj hf
    exact hret _ _ _ _ rfl dX4_many_79 hP hD hS
  have hf := it_f c8 hf
  by_cases c9 : x1 = 3
  · have hf := it_t c9 hf
    refine lv_tableIn (off := 52) (tgt := 80) hx hb dX4_many_28 (by rw [c9]; decide) (by rw [c9]; decide) (by rw [c9]; rfl) (by decide) ?_
    refine lv_aload_n hx hb dX4_many_80 rfl (lv_at hl 0 rfl) ?_
    obtain ⟨r11, hc10, hf⟩ := zq_b1_s hf
    refine zVI (ws' := (wdM ad cy g u)) (rest := []) C0 (fun _ h => h) zF.id (c_X4_lightOfAll hc10) hP hD hS my_X4_lightOfAll kl_X4_240 ⟨rfl, rfl⟩ ⟨Nat.le_of_ble_eq_true rfl, Nat.le_of_ble_eq_true rfl⟩ (q0 := 0) (ci := 4) rfl wdM_0 rfl hl.1 rfl (Nat.le_of_ble_eq_true rfl) dX4_many_81 ⟨Nat.zero_le _, Nat.zero_le _⟩ (fun H locs hP hD hS => ?_)
    obtain rfl := Option.some.inj hf
    exact hret _ _ _ _ rfl dX4_many_84 hP hD hS
  have hf := it_f c9 hf
  by_cases c12 : x1 = 4
  · have hf := it_t c12 hf
    refine lv_tableIn (off := 57) (tgt := 85) hx hb dX4_many_28 (by rw [c12]; decide) (by rw [c12]; decide) (by rw [c12]; rfl) (by decide) ?_
    refine lv_aload_n hx hb dX4_many_85 rfl (lv_at hl 0 rfl) ?_
    refine gf_X4_147 C0 hP 0 wdM_0 rfl dX4_many_86 ?_
    obtain rfl := Option.some.inj hf
    exact hret _ _ _ _ rfl dX4_many_89 hP hD hS
  have hf := it_f c12 hf
  by_cases c13 : x1 = 5
  · have hf := it_t c13 hf
    refine lv_tableIn (off := 62) (tgt := 90) hx hb dX4_many_28 (by rw [c13]; decide) (by rw [c13]; decide) (by rw [c13]; rfl) (by decide) ?_
    refine lv_aload_n hx hb dX4_many_90 rfl (lv_at hl 0 rfl) ?_
    refine gf_X4_144 C0 hP 0 wdM_0 rfl dX4_many_91 ?_
    obtain rfl := Option.some.inj hf
    exact hret _ _ _ _ rfl dX4_many_94 hP hD hS
  have hf := it_f c13 hf
  refine lv_tableOut (tgt := 95) hx hb dX4_many_28 (by have := lv_neT c6 (show (0 : Int32).toInt = 0 by decide); have := lv_neT c7 (show (1 : Int32).toInt = 1 by decide); have := lv_neT c8 (show (2 : Int32).toInt = 2 by decide); have := lv_neT c9 (show (3 : Int32).toInt = 3 by decide); have := lv_neT c12 (show (4 : Int32).toInt = 4 by decide); have := lv_neT c13 (show (5 : Int32).toInt = 5 by decide); omega) (by decide) ?_
  refine lv_bipush (v := (-2)) hx hb dX4_many_95 (by decide) ?_
  obtain rfl := Option.some.inj hf
  exact hret _ _ _ _ rfl dX4_many_97 hP hD hS
