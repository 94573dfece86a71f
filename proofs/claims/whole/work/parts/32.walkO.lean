def f_X4_send_L90 (g : zS) (x4 : Int32) (x6 : Int32) : Nat → Int32 → Option ((Unit) ⊕ (Unit))
  | 0, _ => none
  | q9 + 1, x7 =>
  if x4 ≤ x7 then (
  some (Sum.inl ())) else (
  zq_rd (g 28) 240 (x6 + x7) (fun v19 =>
  zq_b1 (f_X4_isFigure v19) (fun r22 =>
  if r22 = 0 then (
  some (Sum.inr ())) else (
  f_X4_send_L90 g x4 x6 q9 (x7 + 1)))))
def f_X4_send_L210 (x4 : Int32) (x6 : Int32) (x9 : Int32) (x10 : Int32) : Nat → Int32 → Int32 → zS → Option (Int32 × zS)
  | 0, _, _, _ => none
  | q9 + 1, x7, x11, g =>
  zq_rd (g 6) 4 x9 (fun v30 =>
  if v30 ≤ x11 then (
  some (x7, g)) else (
  if x10 = 0 then (
  some (x7, g)) else (
  zq_rd (g 5) 4 x9 (fun v34 =>
  zq_rd (g 28) 240 ((x6 + x4) - x7) (fun v36 =>
  zq_in 16 (v34 + x11) (zq_lt (va_up g 8 (upd (g 8) (Int32.toNatClampNeg (v34 + x11)) v36)) (fun g39 =>
  f_X4_send_L210 x4 x6 x9 x10 q9 (x7 + (-1)) (x11 + 1) g39)))))))
def f_X4_send_J177 (x4 : Int32) (x6 : Int32) (rc : Int32 → Int32 → Int32 → zS → Option (Int32 × zS)) (j7 : Int32) (j8 : Int32) (j9 : Int32) (z0 : Int32) (g : zS) : Option (Int32 × zS) :=
  if j8 = 0 then (
  zq_b2 (f_X4_send_L210 x4 x6 j9 z0 100 j7 0 g) (fun y41 g42 =>
  rc y41 0 (j9 + 1) g42)) else (
  zq_rd (g 7) 4 j9 (fun v43 =>
  if v43 = 1 then (
  zq_b2 (f_X4_send_L210 x4 x6 j9 z0 100 j7 0 g) (fun y47 g48 =>
  rc y47 1 (j9 + 1) g48)) else (
  if z0 = 0 then (
  zq_b2 (f_X4_send_L210 x4 x6 j9 z0 100 j7 0 g) (fun y51 g52 =>
  rc y51 0 (j9 + 1) g52)) else (
  zq_b2 (f_X4_send_L210 x4 x6 j9 z0 100 j7 0 g) (fun y54 g55 =>
  rc y54 1 (j9 + 1) g55)))))
def f_X4_send_J176 (x4 : Int32) (x6 : Int32) (rc : Int32 → Int32 → Int32 → zS → Option (Int32 × zS)) (j7 : Int32) (j8 : Int32) (j9 : Int32) (g : zS) : Option (Int32 × zS) :=
  f_X4_send_J177 x4 x6 rc j7 j8 j9 0 g
def f_X4_send_L136 (x4 : Int32) (x6 : Int32) : Nat → Int32 → Int32 → Int32 → zS → Option (Int32 × zS)
  | 0, _, _, _, _ => none
  | q9 + 1, x7, x8, x9, g =>
  if (g 1 0) ≤ x9 then (
  some (x7, g)) else (
  zq_rd (g 7) 4 x9 (fun v26 =>
  if v26 = 0 then (
  if x8 = 0 then (
  f_X4_send_J176 x4 x6 (f_X4_send_L136 x4 x6 q9) x7 x8 x9 g) else (
  zq_rd (g 6) 4 x9 (fun v57 =>
  if x7 < v57 then (
  f_X4_send_J176 x4 x6 (f_X4_send_L136 x4 x6 q9) x7 x8 x9 g) else (
  f_X4_send_J177 x4 x6 (f_X4_send_L136 x4 x6 q9) x7 x8 x9 1 g)))) else (
  f_X4_send_J176 x4 x6 (f_X4_send_L136 x4 x6 q9) x7 x8 x9 g)))
def f_X4_send (g : zS) (x1 : Int32) (x2 : Int32) (x3 : Int32) (x4 : Int32) : Option (Int32 × zS) :=
  zq_b1 (f_X4_noSheet x1) (fun r2 =>
  if r2 = 0 then (
  zq_b1 (f_X4_in (Int32.toInt64 x2) 0 2) (fun r5 =>
  if r5 = 0 then (
  zq_b2 (f_X4_refused g (-2)) (fun r8 g9 =>
  some (r8, g9))) else (
  zq_b1 (f_X4_in (Int32.toInt64 x4) 0 20) (fun r11 =>
  if r11 = 0 then (
  zq_b2 (f_X4_refused g (-2)) (fun r73 g74 =>
  some (r73, g74))) else (
  if (g 1 0) = 0 then (
  zq_b2 (f_X4_refused g (-3)) (fun r70 g71 =>
  some (r70, g71))) else (
  zq_b2 (f_X4_cellsBarred g x1 x2 x3 (Int32.toInt64 x4)) (fun r15 g16 =>
  if 0 ≤ r15 then (
  zq_s1_1 (f_X4_send_L90 g16 x4 ((60 * x1) + x3) 100 0) (fun _u =>
  zq_b2 (f_X4_send_L136 x4 ((60 * x1) + x3) 100 x4 1 0 g16) (fun y61 g62 =>
  zq_b2 (f_X4_refused g62 y61) (fun r64 g65 =>
  some (r64, g65)))) (fun _u =>
  zq_b2 (f_X4_refused g16 (-2)) (fun r67 g68 =>
  some (r67, g68)))) else (
  some (r15, g16))))))))) else (
  zq_b2 (f_X4_refused g (-1)) (fun r76 g77 =>
  some (r76, g77))))
set_option maxHeartbeats 4000000 in
set_option maxRecDepth 100000 in
theorem w_X4_send_L90 {l : Launch} {p : Program} {e : Env} {s9 : State} {m9 : MethodId} {ag : Array Value} {below : List Frame} {meth : Method} {c : Code} {A : Nat → Prop} {Q : State → Prop} {D : va_G} {ad : Nat → Nat} {cy : Nat → ClassId} {g : zS} {u : zJ} {x4 : Int32} {x6 : Int32} (C0 : zCx p s9 m9 ag c cX4_send 12 RX4 D cy A)  {out : (Unit) ⊕ (Unit)} (e0 : ∀ (uu : Unit), out = Sum.inl uu → ∀ (H : Heap) (locs : List Loc) (ls : Array Slot), va_P D vwCl (wdM ad cy g u) H → va_D A (wdM ad cy g u) → va_S A s9.heap H locs → lv_has ls 12 [(0, .ref (ad 0)), (4, .int x4), (6, .int x6)] → W p l e { frames := 2, cells := 0, slots := 0, locals := 48 } s9 m9 ag below meth c H locs 0 0 Q (F0 m9 126 ls [])) (e1 : ∀ (uu : Unit), out = Sum.inr uu → ∀ (H : Heap) (locs : List Loc) (ls : Array Slot), va_P D vwCl (wdM ad cy g u) H → va_D A (wdM ad cy g u) → va_S A s9.heap H locs → lv_has ls 12 [(0, .ref (ad 0))] → W p l e { frames := 2, cells := 0, slots := 0, locals := 48 } s9 m9 ag below meth c H locs 0 0 Q (F0 m9 113 ls [])) : ∀ (q9 : Nat) (x7 : Int32), f_X4_send_L90 g x4 x6 q9 x7 = some out → ∀ (H : Heap) (locs : List Loc) (ls : Array Slot), va_P D vwCl (wdM ad cy g u) H → va_D A (wdM ad cy g u) → va_S A s9.heap H locs → lv_has ls 12 [(0, .ref (ad 0)), (4, .int x4), (6, .int x6), (7, .int x7)] → W p l e { frames := 2, cells := 0, slots := 0, locals := 48 } s9 m9 ag below meth c H locs 0 0 Q (F0 m9 90 ls []) := by
  obtain ⟨hx, hb, hml, hown, hts⟩ := id C0.1
  intro q9
  induction q9 with
  | zero =>
    intro x7 hf
    rw [f_X4_send_L90] at hf
    cases hf
  | succ q9 ih =>
    intro x7 hf H locs ls hP hD hS hl
    rw [f_X4_send_L90] at hf
    refine lv_iload hx hb dX4_send_90 (lv_at hl 3 rfl) ?_
    refine lv_iload hx hb dX4_send_92 (lv_at hl 1 rfl) ?_
    refine lv_icmp_ge (tgt := 126) hx hb dX4_send_94 (by decide) (fun c18 => ?_) (fun c18 => ?_)
    · have hf := it_t c18 hf
      exact e0 () (Option.some.inj hf).symm _ _ _ hP hD hS (lv_sub hl [0, 1, 2] rfl)
    · have hf := it_f c18 hf
      refine lv_aload_n hx hb dX4_send_97 rfl (lv_at hl 0 rfl) ?_
      refine gf_X4_68 C0 hP 0 wdM_0 rfl dX4_send_98 ?_
      refine lv_iload hx hb dX4_send_101 (lv_at hl 2 rfl) ?_
      refine lv_iload hx hb dX4_send_103 (lv_at hl 3 rfl) ?_
      refine lv_iadd hx hb dX4_send_105 ?_
      obtain ⟨v19, ev19, h20, hf⟩ := zq_rd_s hf
      refine zia C0 hP 20 wdM_20 ev19 h20 dX4_send_106 ?_
      obtain ⟨r22, hc21, hf⟩ := zq_b1_s hf
      refine zSI (ws' := (wdM ad cy g u)) (rest := []) C0 (fun _ h => h) zF.nil (c_X4_isFigure hc21) hP hD hS my_X4_isFigure kl_X4_182 ⟨rfl, rfl⟩ ⟨Nat.le_of_ble_eq_true rfl, Nat.le_of_ble_eq_true rfl⟩ rfl hl.1 rfl (Nat.le_of_ble_eq_true rfl) dX4_send_107 ⟨Nat.zero_le _, Nat.zero_le _⟩ (fun H locs hP hD hS => ?_)
      refine lv_if_ne (tgt := 120) hx hb dX4_send_110 (by decide) (fun c23 => ?_) (fun c23 => ?_)
      · have hf := it_f c23 hf
        refine lv_iinc (v := (x7 + 1)) (lv' := [(7, .int (x7 + 1)), (0, .ref (ad 0)), (4, .int x4), (6, .int x6)]) hx hb dX4_send_120 hl (k := 3) rfl rfl (by decide) rfl (fun ls hl => ?_)
        refine lv_goto (tgt := 90) hx hb dX4_send_123 (by decide) ?_
        exact ih (x7 + 1) hf _ _ _ hP hD hS (lv_sub hl [1, 2, 3, 0] rfl)
      · have hf := it_t c23 hf
        exact e1 () (Option.some.inj hf).symm _ _ _ hP hD hS (lv_sub hl [0] rfl)
set_option maxHeartbeats 4000000 in
set_option maxRecDepth 100000 in
theorem w_X4_send_L210 {l : Launch} {p : Program} {e : Env} {s9 : State} {m9 : MethodId} {ag : Array Value} {below : List Frame} {meth : Method} {c : Code} {A : Nat → Prop} {Q : State → Prop} {D : va_G} {ad : Nat → Nat} {cy : Nat → ClassId} {u : zJ} {x4 : Int32} {x6 : Int32} {x9 : Int32} {x10 : Int32} {x8 : Int32} (C0 : zCx p s9 m9 ag c cX4_send 12 RX4 D cy A)  {o7 : Int32} {go : zS} (e0 : ∀ (H : Heap) (locs : List Loc) (ls : Array Slot), va_P D vwCl (wdM ad cy go u) H → va_D A (wdM ad cy go u) → va_S A s9.heap H locs → lv_has ls 12 [(0, .ref (ad 0)), (4, .int x4), (6, .int x6), (7, .int o7), (8, .int x8), (9, .int x9)] → W p l e { frames := 2, cells := 0, slots := 0, locals := 48 } s9 m9 ag below meth c H locs 0 0 Q (F0 m9 264 ls [])) : ∀ (q9 : Nat) (x7 : Int32) (x11 : Int32) (g : zS), f_X4_send_L210 x4 x6 x9 x10 q9 x7 x11 g = some (o7, go) → ∀ (H : Heap) (locs : List Loc) (ls : Array Slot), va_P D vwCl (wdM ad cy g u) H → va_D A (wdM ad cy g u) → va_S A s9.heap H locs → lv_has ls 12 [(0, .ref (ad 0)), (4, .int x4), (6, .int x6), (7, .int x7), (8, .int x8), (9, .int x9), (10, .int x10), (11, .int x11)] → W p l e { frames := 2, cells := 0, slots := 0, locals := 48 } s9 m9 ag below meth c H locs 0 0 Q (F0 m9 210 ls []) := by
  obtain ⟨hx, hb, hml, hown, hts⟩ := id C0.1
  intro q9
  induction q9 with
  | zero =>
    intro x7 x11 g hf
    rw [f_X4_send_L210] at hf
    cases hf
  | succ q9 ih =>
    intro x7 x11 g hf H locs ls hP hD hS hl
    rw [f_X4_send_L210] at hf
    refine lv_iload hx hb dX4_send_210 (lv_at hl 7 rfl) ?_
    refine lv_aload_n hx hb dX4_send_212 rfl (lv_at hl 0 rfl) ?_
    refine gf_X4_16 C0 hP 0 wdM_0 rfl dX4_send_213 ?_
    refine lv_iload hx hb dX4_send_216 (lv_at hl 5 rfl) ?_
    obtain ⟨v30, ev30, h31, hf⟩ := zq_rd_s hf
    refine zia C0 hP 3 wdM_3 ev30 h31 dX4_send_218 ?_
    refine lv_icmp_ge (tgt := 264) hx hb dX4_send_219 (by decide) (fun c32 => ?_) (fun c32 => ?_)
    · have hf := it_t c32 hf
      obtain ⟨rfl, rfl⟩ := zq_j2 hf
      exact e0 _ _ _ hP hD hS (lv_sub hl [0, 1, 2, 3, 4, 5] rfl)
    · have hf := it_f c32 hf
      refine lv_iload hx hb dX4_send_222 (lv_at hl 6 rfl) ?_
      refine lv_if_eq (tgt := 264) hx hb dX4_send_224 (by decide) (fun c33 => ?_) (fun c33 => ?_)
      · have hf := it_t c33 hf
        obtain ⟨rfl, rfl⟩ := zq_j2 hf
        exact e0 _ _ _ hP hD hS (lv_sub hl [0, 1, 2, 3, 4, 5] rfl)
      · have hf := it_f c33 hf
        refine lv_aload_n hx hb dX4_send_227 rfl (lv_at hl 0 rfl) ?_
        refine gf_X4_22 C0 hP 0 wdM_0 rfl dX4_send_228 ?_
        refine lv_aload_n hx hb dX4_send_231 rfl (lv_at hl 0 rfl) ?_
        refine gf_X4_13 C0 hP 0 wdM_0 rfl dX4_send_232 ?_
        refine lv_iload hx hb dX4_send_235 (lv_at hl 5 rfl) ?_
        obtain ⟨v34, ev34, h35, hf⟩ := zq_rd_s hf
        refine zia C0 hP 2 wdM_2 ev34 h35 dX4_send_237 ?_
        refine lv_iload hx hb dX4_send_238 (lv_at hl 7 rfl) ?_
        refine lv_iadd hx hb dX4_send_240 ?_
        refine lv_aload_n hx hb dX4_send_241 rfl (lv_at hl 0 rfl) ?_
        refine gf_X4_68 C0 hP 0 wdM_0 rfl dX4_send_242 ?_
        refine lv_iload hx hb dX4_send_245 (lv_at hl 2 rfl) ?_
        refine lv_iload hx hb dX4_send_247 (lv_at hl 1 rfl) ?_
        refine lv_iadd hx hb dX4_send_249 ?_
        refine lv_iload hx hb dX4_send_250 (lv_at hl 3 rfl) ?_
        refine lv_isub hx hb dX4_send_252 ?_
        obtain ⟨v36, ev36, h37, hf⟩ := zq_rd_s hf
        refine zia C0 hP 20 wdM_20 ev36 h37 dX4_send_253 ?_
        obtain ⟨h38, hf⟩ := zq_in_s hf
        obtain ⟨g39, eg39, hf⟩ := zq_lt_s hf
        refine zis (ws' := (wdM ad cy g39 u)) C0 hP hD hS 5 wdM_5 h38 (by rw [eg39]; rfl) dX4_send_254 (fun H locs hP hD hS => ?_)
        refine lv_iinc (v := (x7 + (-1))) (lv' := [(7, .int (x7 + (-1))), (0, .ref (ad 0)), (4, .int x4), (6, .int x6), (8, .int x8), (9, .int x9), (10, .int x10), (11, .int x11)]) hx hb dX4_send_255 hl (k := 3) rfl rfl (by decide) rfl (fun ls hl => ?_)
        refine lv_iinc (v := (x11 + 1)) (lv' := [(11, .int (x11 + 1)), (7, .int (x7 + (-1))), (0, .ref (ad 0)), (4, .int x4), (6, .int x6), (8, .int x8), (9, .int x9), (10, .int x10)]) hx hb dX4_send_258 hl (k := 7) rfl rfl (by decide) rfl (fun ls hl => ?_)
        refine lv_goto (tgt := 210) hx hb dX4_send_261 (by decide) ?_
        exact ih (x7 + (-1)) (x11 + 1) g39 hf _ _ _ hP hD hS (lv_sub hl [2, 3, 4, 1, 5, 6, 7, 0] rfl)
set_option maxHeartbeats 4000000 in
set_option maxRecDepth 100000 in
theorem w_X4_send_L136 {l : Launch} {p : Program} {e : Env} {s9 : State} {m9 : MethodId} {ag : Array Value} {below : List Frame} {meth : Method} {c : Code} {A : Nat → Prop} {Q : State → Prop} {D : va_G} {ad : Nat → Nat} {cy : Nat → ClassId} {u : zJ} {x4 : Int32} {x6 : Int32} (C0 : zCx p s9 m9 ag c cX4_send 12 RX4 D cy A)  {o7 : Int32} {go : zS} (e0 : ∀ (H : Heap) (locs : List Loc) (ls : Array Slot), va_P D vwCl (wdM ad cy go u) H → va_D A (wdM ad cy go u) → va_S A s9.heap H locs → lv_has ls 12 [(0, .ref (ad 0)), (7, .int o7)] → W p l e { frames := 2, cells := 0, slots := 0, locals := 48 } s9 m9 ag below meth c H locs 0 0 Q (F0 m9 270 ls [])) : ∀ (q9 : Nat) (x7 : Int32) (x8 : Int32) (x9 : Int32) (g : zS), f_X4_send_L136 x4 x6 q9 x7 x8 x9 g = some (o7, go) → ∀ (H : Heap) (locs : List Loc) (ls : Array Slot), va_P D vwCl (wdM ad cy g u) H → va_D A (wdM ad cy g u) → va_S A s9.heap H locs → lv_has ls 12 [(0, .ref (ad 0)), (4, .int x4), (6, .int x6), (7, .int x7), (8, .int x8), (9, .int x9)] → W p l e { frames := 2, cells := 0, slots := 0, locals := 48 } s9 m9 ag below meth c H locs 0 0 Q (F0 m9 136 ls []) := by
  obtain ⟨hx, hb, hml, hown, hts⟩ := id C0.1
  intro q9
  induction q9 with
  | zero =>
    intro x7 x8 x9 g hf
    rw [f_X4_send_L136] at hf
    cases hf
  | succ q9 ih =>
    intro x7 x8 x9 g hf H locs ls hP hD hS hl
    rw [f_X4_send_L136] at hf
    have hj177 : ∀ (j7 : Int32) (j8 : Int32) (j9 : Int32) (z0 : Int32) (g : zS), f_X4_send_J177 x4 x6 (f_X4_send_L136 x4 x6 q9) j7 j8 j9 z0 g = some (o7, go) → ∀ (H : Heap) (locs : List Loc) (ls : Array Slot), va_P D vwCl (wdM ad cy g u) H → va_D A (wdM ad cy g u) → va_S A s9.heap H locs → lv_has ls 12 [(0, .ref (ad 0)), (4, .int x4), (6, .int x6), (7, .int j7), (8, .int j8), (9, .int j9)] → W p l e { frames := 2, cells := 0, slots := 0, locals := 48 } s9 m9 ag below meth c H locs 0 0 Q (F0 m9 177 ls [.int z0]) := by
      intro j7 j8 j9 z0 g hf H locs ls hP hD hS hl
      unfold f_X4_send_J177 at hf
      refine lv_istore (lv' := [(10, .int z0), (0, .ref (ad 0)), (4, .int x4), (6, .int x6), (7, .int j7), (8, .int j8), (9, .int j9)]) hx hb dX4_send_177 hl (by decide) rfl (fun ls hl => ?_)
      refine lv_iload hx hb dX4_send_179 (lv_at hl 5 rfl) ?_
      refine lv_if_eq (tgt := 204) hx hb dX4_send_181 (by decide) (fun c29 => ?_) (fun c29 => ?_)
      · have hf := it_t c29 hf
        refine lv_iconst (v := 0) hx hb dX4_send_204 (by decide) ?_
        refine lv_istore (lv' := [(8, .int 0), (10, .int z0), (0, .ref (ad 0)), (4, .int x4), (6, .int x6), (7, .int j7), (9, .int j9)]) hx hb dX4_send_205 hl (by decide) rfl (fun ls hl => ?_)
        refine lv_iconst (v := 0) hx hb dX4_send_207 (by decide) ?_
        refine lv_istore (lv' := [(11, .int 0), (8, .int 0), (10, .int z0), (0, .ref (ad 0)), (4, .int x4), (6, .int x6), (7, .int j7), (9, .int j9)]) hx hb dX4_send_208 hl (by decide) rfl (fun ls hl => ?_)
        obtain ⟨y41, g42, hL40, hf⟩ := zq_b2_s hf
        refine w_X4_send_L210 C0 (fun H locs ls hP hD hS hl => ?_) 100 j7 0 g hL40 _ _ _ hP hD hS (lv_sub hl [3, 4, 5, 6, 1, 7, 2, 0] rfl)
        refine lv_iinc (v := (j9 + 1)) (lv' := [(9, .int (j9 + 1)), (0, .ref (ad 0)), (4, .int x4), (6, .int x6), (7, .int y41), (8, .int 0)]) hx hb dX4_send_264 hl (k := 5) rfl rfl (by decide) rfl (fun ls hl => ?_)
        refine lv_goto (tgt := 136) hx hb dX4_send_267 (by decide) ?_
        exact ih y41 0 (j9 + 1) g42 hf _ _ _ hP hD hS (lv_sub hl [1, 2, 3, 4, 5, 0] rfl)
      · have hf := it_f c29 hf
        refine lv_aload_n hx hb dX4_send_184 rfl (lv_at hl 1 rfl) ?_
        refine gf_X4_19 C0 hP 0 wdM_0 rfl dX4_send_185 ?_
        refine lv_iload hx hb dX4_send_188 (lv_at hl 6 rfl) ?_
        obtain ⟨v43, ev43, h44, hf⟩ := zq_rd_s hf
        refine zia C0 hP 4 wdM_4 ev43 h44 dX4_send_190 ?_
        refine lv_iconst (v := 1) hx hb dX4_send_191 (by decide) ?_
        refine lv_icmp_eq (tgt := 200) hx hb dX4_send_192 (by decide) (fun c45 => ?_) (fun c45 => ?_)
        · have hf := it_t c45 hf
          refine lv_iconst (v := 1) hx hb dX4_send_200 (by decide) ?_
          refine lv_goto (tgt := 205) hx hb dX4_send_201 (by decide) ?_
          refine lv_istore (lv' := [(8, .int 1), (10, .int z0), (0, .ref (ad 0)), (4, .int x4), (6, .int x6), (7, .int j7), (9, .int j9)]) hx hb dX4_send_205 hl (by decide) rfl (fun ls hl => ?_)
          refine lv_iconst (v := 0) hx hb dX4_send_207 (by decide) ?_
          refine lv_istore (lv' := [(11, .int 0), (8, .int 1), (10, .int z0), (0, .ref (ad 0)), (4, .int x4), (6, .int x6), (7, .int j7), (9, .int j9)]) hx hb dX4_send_208 hl (by decide) rfl (fun ls hl => ?_)
          obtain ⟨y47, g48, hL46, hf⟩ := zq_b2_s hf
          refine w_X4_send_L210 C0 (fun H locs ls hP hD hS hl => ?_) 100 j7 0 g hL46 _ _ _ hP hD hS (lv_sub hl [3, 4, 5, 6, 1, 7, 2, 0] rfl)
          refine lv_iinc (v := (j9 + 1)) (lv' := [(9, .int (j9 + 1)), (0, .ref (ad 0)), (4, .int x4), (6, .int x6), (7, .int y47), (8, .int 1)]) hx hb dX4_send_264 hl (k := 5) rfl rfl (by decide) rfl (fun ls hl => ?_)
          refine lv_goto (tgt := 136) hx hb dX4_send_267 (by decide) ?_
          exact ih y47 1 (j9 + 1) g48 hf _ _ _ hP hD hS (lv_sub hl [1, 2, 3, 4, 5, 0] rfl)
        · have hf := it_f c45 hf
          refine lv_iload hx hb dX4_send_195 (lv_at hl 0 rfl) ?_
          refine lv_if_eq (tgt := 204) hx hb dX4_send_197 (by decide) (fun c49 => ?_) (fun c49 => ?_)
          · have hf := it_t c49 hf
            refine lv_iconst (v := 0) hx hb dX4_send_204 (by decide) ?_
            refine lv_istore (lv' := [(8, .int 0), (10, .int z0), (0, .ref (ad 0)), (4, .int x4), (6, .int x6), (7, .int j7), (9, .int j9)]) hx hb dX4_send_205 hl (by decide) rfl (fun ls hl => ?_)
            refine lv_iconst (v := 0) hx hb dX4_send_207 (by decide) ?_
            refine lv_istore (lv' := [(11, .int 0), (8, .int 0), (10, .int z0), (0, .ref (ad 0)), (4, .int x4), (6, .int x6), (7, .int j7), (9, .int j9)]) hx hb dX4_send_208 hl (by decide) rfl (fun ls hl => ?_)
            obtain ⟨y51, g52, hL50, hf⟩ := zq_b2_s hf
            refine w_X4_send_L210 C0 (fun H locs ls hP hD hS hl => ?_) 100 j7 0 g hL50 _ _ _ hP hD hS (lv_sub hl [3, 4, 5, 6, 1, 7, 2, 0] rfl)
            refine lv_iinc (v := (j9 + 1)) (lv' := [(9, .int (j9 + 1)), (0, .ref (ad 0)), (4, .int x4), (6, .int x6), (7, .int y51), (8, .int 0)]) hx hb dX4_send_264 hl (k := 5) rfl rfl (by decide) rfl (fun ls hl => ?_)
            refine lv_goto (tgt := 136) hx hb dX4_send_267 (by decide) ?_
            exact ih y51 0 (j9 + 1) g52 hf _ _ _ hP hD hS (lv_sub hl [1, 2, 3, 4, 5, 0] rfl)
          · have hf := it_f c49 hf
            refine lv_iconst (v := 1) hx hb dX4_send_200 (by decide) ?_
            refine lv_goto (tgt := 205) hx hb dX4_send_201 (by decide) ?_
            refine lv_istore (lv' := [(8, .int 1), (10, .int z0), (0, .ref (ad 0)), (4, .int x4), (6, .int x6), (7, .int j7), (9, .int j9)]) hx hb dX4_send_205 hl (by decide) rfl (fun ls hl => ?_)
            refine lv_iconst (v := 0) hx hb dX4_send_207 (by decide) ?_
            refine lv_istore (lv' := [(11, .int 0), (8, .int 1), (10, .int z0), (0, .ref (ad 0)), (4, .int x4), (6, .int x6), (7, .int j7), (9, .int j9)]) hx hb dX4_send_208 hl (by decide) rfl (fun ls hl => ?_)
            obtain ⟨y54, g55, hL53, hf⟩ := zq_b2_s hf
            refine w_X4_send_L210 C0 (fun H locs ls hP hD hS hl => ?_) 100 j7 0 g hL53 _ _ _ hP hD hS (lv_sub hl [3, 4, 5, 6, 1, 7, 2, 0] rfl)
            refine lv_iinc (v := (j9 + 1)) (lv' := [(9, .int (j9 + 1)), (0, .ref (ad 0)), (4, .int x4), (6, .int x6), (7, .int y54), (8, .int 1)]) hx hb dX4_send_264 hl (k := 5) rfl rfl (by decide) rfl (fun ls hl => ?_)
            refine lv_goto (tgt := 136) hx hb dX4_send_267 (by decide) ?_
            exact ih y54 1 (j9 + 1) g55 hf _ _ _ hP hD hS (lv_sub hl [1, 2, 3, 4, 5, 0] rfl)
    have hj176 : ∀ (j7 : Int32) (j8 : Int32) (j9 : Int32) (g : zS), f_X4_send_J176 x4 x6 (f_X4_send_L136 x4 x6 q9) j7 j8 j9 g = some (o7, go) → ∀ (H : Heap) (locs : List Loc) (ls : Array Slot), va_P D vwCl (wdM ad cy g u) H → va_D A (wdM ad cy g u) → va_S A s9.heap H locs → lv_has ls 12 [(0, .ref (ad 0)), (4, .int x4), (6, .int x6), (7, .int j7), (8, .int j8), (9, .int j9)] → W p l e { frames := 2, cells := 0, slots := 0, locals := 48 } s9 m9 ag below meth c H locs 0 0 Q (F0 m9 176 ls []) := by
      intro j7 j8 j9 g hf H locs ls hP hD hS hl
      unfold f_X4_send_J176 at hf
      refine lv_iconst (v := 0) hx hb dX4_send_176 (by decide) ?_
      exact hj177 j7 j8 j9 0 g hf _ _ _ hP hD hS (lv_sub hl [0, 1, 2, 3, 4, 5] rfl)
    refine lv_iload hx hb dX4_send_136 (lv_at hl 5 rfl) ?_
    refine lv_aload_n hx hb dX4_send_138 rfl (lv_at hl 0 rfl) ?_
    refine gf_X4_84 C0 hP 0 wdM_0 rfl dX4_send_139 ?_
    refine lv_icmp_ge (tgt := 270) hx hb dX4_send_142 (by decide) (fun c25 => ?_) (fun c25 => ?_)
    · have hf := it_t c25 hf
      obtain ⟨rfl, rfl⟩ := zq_j2 hf
      exact e0 _ _ _ hP hD hS (lv_sub hl [0, 3] rfl)
    · have hf := it_f c25 hf
      refine lv_aload_n hx hb dX4_send_145 rfl (lv_at hl 0 rfl) ?_
      refine gf_X4_19 C0 hP 0 wdM_0 rfl dX4_send_146 ?_
      refine lv_iload hx hb dX4_send_149 (lv_at hl 5 rfl) ?_
      obtain ⟨v26, ev26, h27, hf⟩ := zq_rd_s hf
      refine zia C0 hP 4 wdM_4 ev26 h27 dX4_send_151 ?_
      refine lv_if_ne (tgt := 176) hx hb dX4_send_152 (by decide) (fun c28 => ?_) (fun c28 => ?_)
      · have hf := it_f c28 hf
        exact hj176 x7 x8 x9 g hf _ _ _ hP hD hS (lv_sub hl [0, 1, 2, 3, 4, 5] rfl)
      · have hf := it_t c28 hf
        refine lv_iload hx hb dX4_send_155 (lv_at hl 4 rfl) ?_
        refine lv_if_eq (tgt := 176) hx hb dX4_send_157 (by decide) (fun c56 => ?_) (fun c56 => ?_)
        · have hf := it_t c56 hf
          exact hj176 x7 x8 x9 g hf _ _ _ hP hD hS (lv_sub hl [0, 1, 2, 3, 4, 5] rfl)
        · have hf := it_f c56 hf
          refine lv_iload hx hb dX4_send_160 (lv_at hl 3 rfl) ?_
          refine lv_aload_n hx hb dX4_send_162 rfl (lv_at hl 0 rfl) ?_
          refine gf_X4_16 C0 hP 0 wdM_0 rfl dX4_send_163 ?_
          refine lv_iload hx hb dX4_send_166 (lv_at hl 5 rfl) ?_
          obtain ⟨v57, ev57, h58, hf⟩ := zq_rd_s hf
          refine zia C0 hP 3 wdM_3 ev57 h58 dX4_send_168 ?_
          refine lv_icmp_lt (tgt := 176) hx hb dX4_send_169 (by decide) (fun c59 => ?_) (fun c59 => ?_)
          · have hf := it_t c59 hf
            exact hj176 x7 x8 x9 g hf _ _ _ hP hD hS (lv_sub hl [0, 1, 2, 3, 4, 5] rfl)
          · have hf := it_f c59 hf
            refine lv_iconst (v := 1) hx hb dX4_send_172 (by decide) ?_
            refine lv_goto (tgt := 177) hx hb dX4_send_173 (by decide) ?_
            exact hj177 x7 x8 x9 1 g hf _ _ _ hP hD hS (lv_sub hl [0, 1, 2, 3, 4, 5] rfl)
set_option maxHeartbeats 4000000 in
set_option maxRecDepth 100000 in
theorem c_X4_send {l : Launch} {D : va_G} {ad : Nat → Nat} {cy : Nat → ClassId} {g : zS} {u : zJ} {x1 : Int32} {x2 : Int32} {x3 : Int32} {x4 : Int32} {r0 : Int32} {g' : zS} (hf : f_X4_send g x1 x2 x3 x4 = some (r0, g')) : zMI l yX4_send (zW yX4_send cX4_send 12 (some .int)) { frames := 2, cells := 0, slots := 0, locals := 48 } D cy [.ref (ad 0), .int x1, .int x2, .int x3, .int x4] (wdM ad cy g u) r0 (wdM ad cy g' u) := by
  unfold f_X4_send at hf
  refine zEI (ty := .int) (by decide) (Nat.le_of_ble_eq_true rfl) ?_
  intro p e s9 m9 below meth c A Q C0 hret ls hl hP hD
  have hl : lv_has ls 12 [(0, .ref (ad 0)), (1, .int x1), (2, .int x2), (3, .int x3), (4, .int x4)] := hl
  have hS : va_S A s9.heap s9.heap [] := va_S.rf
  obtain ⟨hx, hb, hml, hown, hts⟩ := id C0.1
  refine lv_iload_n hx hb dX4_send_0 rfl (lv_at hl 1 rfl) ?_
  obtain ⟨r2, hc1, hf⟩ := zq_b1_s hf
  refine zSI (ws' := (wdM ad cy g u)) (rest := []) C0 (fun _ h => h) zF.nil (c_X4_noSheet hc1) hP hD hS my_X4_noSheet kl_X4_128 ⟨rfl, rfl⟩ ⟨Nat.le_of_ble_eq_true rfl, Nat.le_of_ble_eq_true rfl⟩ rfl hl.1 rfl (Nat.le_of_ble_eq_true rfl) dX4_send_1 ⟨Nat.zero_le _, Nat.zero_le _⟩ (fun H locs hP hD hS => ?_)
  refine lv_if_eq (tgt := 13) hx hb dX4_send_4 (by decide) (fun c3 => ?_) (fun c3 => ?_)
  · have hf := it_t c3 hf
    refine lv_iload_n hx hb dX4_send_13 rfl (lv_at hl 2 rfl) ?_
    refine lv_i2l hx hb dX4_send_14 rfl ?_
    refine lv_lconst (v := 0) hx hb dX4_send_15 (by decide) ?_
    refine lv_ldc2 hx hb hown (hts _ kc_X4_135) dX4_send_16 ?_
    obtain ⟨r5, hc4, hf⟩ := zq_b1_s hf
    refine zSI (ws' := (wdM ad cy g u)) (rest := []) C0 (fun _ h => h) zF.nil (c_X4_in hc4) hP hD hS my_X4_in kl_X4_87 ⟨rfl, rfl⟩ ⟨Nat.le_of_ble_eq_true rfl, Nat.le_of_ble_eq_true rfl⟩ rfl hl.1 rfl (Nat.le_of_ble_eq_true rfl) dX4_send_19 ⟨Nat.zero_le _, Nat.zero_le _⟩ (fun H locs hP hD hS => ?_)
    refine lv_if_eq (tgt := 38) hx hb dX4_send_22 (by decide) (fun c6 => ?_) (fun c6 => ?_)
    · have hf := it_t c6 hf
      refine lv_aload_n hx hb dX4_send_38 rfl (lv_at hl 0 rfl) ?_
      refine lv_bipush (v := (-2)) hx hb dX4_send_39 (by decide) ?_
      obtain ⟨r8, g9, hc7, hf⟩ := zq_b2_s hf
      refine zVI (ws' := (wdM ad cy g9 u)) (rest := []) C0 (fun _ h => h) zF.id (c_X4_refused hc7) hP hD hS my_X4_refused kl_X4_132 ⟨rfl, rfl⟩ ⟨Nat.le_of_ble_eq_true rfl, Nat.le_of_ble_eq_true rfl⟩ (q0 := 0) (ci := 4) rfl wdM_0 rfl hl.1 rfl (Nat.le_of_ble_eq_true rfl) dX4_send_41 ⟨Nat.zero_le _, Nat.zero_le _⟩ (fun H locs hP hD hS => ?_)
      obtain ⟨rfl, rfl⟩ := zq_j2 hf
      exact hret _ _ _ _ rfl dX4_send_44 hP hD hS
    · have hf := it_f c6 hf
      refine lv_iload hx hb dX4_send_25 (lv_at hl 4 rfl) ?_
      refine lv_i2l hx hb dX4_send_27 rfl ?_
      refine lv_lconst (v := 0) hx hb dX4_send_28 (by decide) ?_
      refine lv_ldc2 hx hb hown (hts _ kc_X4_220) dX4_send_29 ?_
      obtain ⟨r11, hc10, hf⟩ := zq_b1_s hf
      refine zSI (ws' := (wdM ad cy g u)) (rest := []) C0 (fun _ h => h) zF.nil (c_X4_in hc10) hP hD hS my_X4_in kl_X4_87 ⟨rfl, rfl⟩ ⟨Nat.le_of_ble_eq_true rfl, Nat.le_of_ble_eq_true rfl⟩ rfl hl.1 rfl (Nat.le_of_ble_eq_true rfl) dX4_send_32 ⟨Nat.zero_le _, Nat.zero_le _⟩ (fun H locs hP hD hS => ?_)
      refine lv_if_ne (tgt := 45) hx hb dX4_send_35 (by decide) (fun c12 => ?_) (fun c12 => ?_)
      · have hf := it_f c12 hf
        refine lv_aload_n hx hb dX4_send_45 rfl (lv_at hl 0 rfl) ?_
        refine gf_X4_84 C0 hP 0 wdM_0 rfl dX4_send_46 ?_
        refine lv_if_ne (tgt := 59) hx hb dX4_send_49 (by decide) (fun c13 => ?_) (fun c13 => ?_)
        · have hf := it_f c13 hf
          refine lv_aload_n hx hb dX4_send_59 rfl (lv_at hl 0 rfl) ?_
          refine lv_iload_n hx hb dX4_send_60 rfl (lv_at hl 1 rfl) ?_
          refine lv_iload_n hx hb dX4_send_61 rfl (lv_at hl 2 rfl) ?_
          refine lv_iload_n hx hb dX4_send_62 rfl (lv_at hl 3 rfl) ?_
          refine lv_iload hx hb dX4_send_63 (lv_at hl 4 rfl) ?_
          refine lv_i2l hx hb dX4_send_65 rfl ?_
          obtain ⟨r15, g16, hc14, hf⟩ := zq_b2_s hf
          refine zVI (ws' := (wdM ad cy g16 u)) (rest := []) C0 (fun _ h => h) zF.id (c_X4_cellsBarred hc14) hP hD hS my_X4_cellsBarred kl_X4_137 ⟨rfl, rfl⟩ ⟨Nat.le_of_ble_eq_true rfl, Nat.le_of_ble_eq_true rfl⟩ (q0 := 0) (ci := 4) rfl wdM_0 rfl hl.1 rfl (Nat.le_of_ble_eq_true rfl) dX4_send_66 ⟨Nat.zero_le _, Nat.zero_le _⟩ (fun H locs hP hD hS => ?_)
          refine lv_istore (lv' := [(5, .int r15), (0, .ref (ad 0)), (1, .int x1), (2, .int x2), (3, .int x3), (4, .int x4)]) hx hb dX4_send_69 hl (by decide) rfl (fun ls hl => ?_)
          refine lv_iload hx hb dX4_send_71 (lv_at hl 0 rfl) ?_
          refine lv_if_ge (tgt := 79) hx hb dX4_send_73 (by decide) (fun c17 => ?_) (fun c17 => ?_)
          · have hf := it_t c17 hf
            refine lv_bipush (v := 60) hx hb dX4_send_79 (by decide) ?_
            refine lv_iload_n hx hb dX4_send_81 rfl (lv_at hl 2 rfl) ?_
            refine lv_imul hx hb dX4_send_82 ?_
            refine lv_iload_n hx hb dX4_send_83 rfl (lv_at hl 4 rfl) ?_
            refine lv_iadd hx hb dX4_send_84 ?_
            refine lv_istore (lv' := [(6, .int ((60 * x1) + x3)), (5, .int r15), (0, .ref (ad 0)), (1, .int x1), (2, .int x2), (3, .int x3), (4, .int x4)]) hx hb dX4_send_85 hl (by decide) rfl (fun ls hl => ?_)
            refine lv_iconst (v := 0) hx hb dX4_send_87 (by decide) ?_
            refine lv_istore (lv' := [(7, .int 0), (6, .int ((60 * x1) + x3)), (5, .int r15), (0, .ref (ad 0)), (1, .int x1), (2, .int x2), (3, .int x3), (4, .int x4)]) hx hb dX4_send_88 hl (by decide) rfl (fun ls hl => ?_)
            rcases zq_s1_1_s hf with ⟨_u, hL24, hf⟩ | ⟨_u, hL24, hf⟩
            · refine w_X4_send_L90 C0 (zq_el1 ?_) (zq_nr1) 100 0 hL24 _ _ _ hP hD hS (lv_sub hl [3, 7, 1, 0] rfl)
              intro H locs ls hP hD hS hl
              refine lv_iload hx hb dX4_send_126 (lv_at hl 1 rfl) ?_
              refine lv_istore (lv' := [(7, .int x4), (0, .ref (ad 0)), (4, .int x4), (6, .int ((60 * x1) + x3))]) hx hb dX4_send_128 hl (by decide) rfl (fun ls hl => ?_)
              refine lv_iconst (v := 1) hx hb dX4_send_130 (by decide) ?_
              refine lv_istore (lv' := [(8, .int 1), (7, .int x4), (0, .ref (ad 0)), (4, .int x4), (6, .int ((60 * x1) + x3))]) hx hb dX4_send_131 hl (by decide) rfl (fun ls hl => ?_)
              refine lv_iconst (v := 0) hx hb dX4_send_133 (by decide) ?_
              refine lv_istore (lv' := [(9, .int 0), (8, .int 1), (7, .int x4), (0, .ref (ad 0)), (4, .int x4), (6, .int ((60 * x1) + x3))]) hx hb dX4_send_134 hl (by decide) rfl (fun ls hl => ?_)
              obtain ⟨y61, g62, hL60, hf⟩ := zq_b2_s hf
              refine w_X4_send_L136 C0 (fun H locs ls hP hD hS hl => ?_) 100 x4 1 0 g16 hL60 _ _ _ hP hD hS (lv_sub hl [3, 4, 5, 2, 1, 0] rfl)
              refine lv_aload_n hx hb dX4_send_270 rfl (lv_at hl 0 rfl) ?_
              refine lv_iload hx hb dX4_send_271 (lv_at hl 1 rfl) ?_
              obtain ⟨r64, g65, hc63, hf⟩ := zq_b2_s hf
              refine zVI (ws' := (wdM ad cy g65 u)) (rest := []) C0 (fun _ h => h) zF.id (c_X4_refused hc63) hP hD hS my_X4_refused kl_X4_132 ⟨rfl, rfl⟩ ⟨Nat.le_of_ble_eq_true rfl, Nat.le_of_ble_eq_true rfl⟩ (q0 := 0) (ci := 4) rfl wdM_0 rfl hl.1 rfl (Nat.le_of_ble_eq_true rfl) dX4_send_273 ⟨Nat.zero_le _, Nat.zero_le _⟩ (fun H locs hP hD hS => ?_)
              obtain ⟨rfl, rfl⟩ := zq_j2 hf
              exact hret _ _ _ _ rfl dX4_send_276 hP hD hS
            · refine w_X4_send_L90 C0 (zq_nl1) (zq_er1 ?_) 100 0 hL24 _ _ _ hP hD hS (lv_sub hl [3, 7, 1, 0] rfl)
              intro H locs ls hP hD hS hl
              refine lv_aload_n hx hb dX4_send_113 rfl (lv_at hl 0 rfl) ?_
              refine lv_bipush (v := (-2)) hx hb dX4_send_114 (by decide) ?_
              obtain ⟨r67, g68, hc66, hf⟩ := zq_b2_s hf
              refine zVI (ws' := (wdM ad cy g68 u)) (rest := []) C0 (fun _ h => h) zF.id (c_X4_refused hc66) hP hD hS my_X4_refused kl_X4_132 ⟨rfl, rfl⟩ ⟨Nat.le_of_ble_eq_true rfl, Nat.le_of_ble_eq_true rfl⟩ (q0 := 0) (ci := 4) rfl wdM_0 rfl hl.1 rfl (Nat.le_of_ble_eq_true rfl) dX4_send_116 ⟨Nat.zero_le _, Nat.zero_le _⟩ (fun H locs hP hD hS => ?_)
              obtain ⟨rfl, rfl⟩ := zq_j2 hf
              exact hret _ _ _ _ rfl dX4_send_119 hP hD hS
          · have hf := it_f c17 hf
            refine lv_iload hx hb dX4_send_76 (lv_at hl 0 rfl) ?_
            obtain ⟨rfl, rfl⟩ := zq_j2 hf
            exact hret _ _ _ _ rfl dX4_send_78 hP hD hS
        · have hf := it_t c13 hf
          refine lv_aload_n hx hb dX4_send_52 rfl (lv_at hl 0 rfl) ?_
          refine lv_bipush (v := (-3)) hx hb dX4_send_53 (by decide) ?_
          obtain ⟨r70, g71, hc69, hf⟩ := zq_b2_s hf
          refine zVI (ws' := (wdM ad cy g71 u)) (rest := []) C0 (fun _ h => h) zF.id (c_X4_refused hc69) hP hD hS my_X4_refused kl_X4_132 ⟨rfl, rfl⟩ ⟨Nat.le_of_ble_eq_true rfl, Nat.le_of_ble_eq_true rfl⟩ (q0 := 0) (ci := 4) rfl wdM_0 rfl hl.1 rfl (Nat.le_of_ble_eq_true rfl) dX4_send_55 ⟨Nat.zero_le _, Nat.zero_le _⟩ (fun H locs hP hD hS => ?_)
          obtain ⟨rfl, rfl⟩ := zq_j2 hf
          exact hret _ _ _ _ rfl dX4_send_58 hP hD hS
      · have hf := it_t c12 hf
        refine lv_aload_n hx hb dX4_send_38 rfl (lv_at hl 0 rfl) ?_
        refine lv_bipush (v := (-2)) hx hb dX4_send_39 (by decide) ?_
        obtain ⟨r73, g74, hc72, hf⟩ := zq_b2_s hf
        refine zVI (ws' := (wdM ad cy g74 u)) (rest := []) C0 (fun _ h => h) zF.id (c_X4_refused hc72) hP hD hS my_X4_refused kl_X4_132 ⟨rfl, rfl⟩ ⟨Nat.le_of_ble_eq_true rfl, Nat.le_of_ble_eq_true rfl⟩ (q0 := 0) (ci := 4) rfl wdM_0 rfl hl.1 rfl (Nat.le_of_ble_eq_true rfl) dX4_send_41 ⟨Nat.zero_le _, Nat.zero_le _⟩ (fun H locs hP hD hS => ?_)
        obtain ⟨rfl, rfl⟩ := zq_j2 hf
        exact hret _ _ _ _ rfl dX4_send_44 hP hD hS
  · have hf := it_f c3 hf
    refine lv_aload_n hx hb dX4_send_7 rfl (lv_at hl 0 rfl) ?_
    refine lv_iconst (v := (-1)) hx hb dX4_send_8 (by decide) ?_
    obtain ⟨r76, g77, hc75, hf⟩ := zq_b2_s hf
    refine zVI (ws' := (wdM ad cy g77 u)) (rest := []) C0 (fun _ h => h) zF.id (c_X4_refused hc75) hP hD hS my_X4_refused kl_X4_132 ⟨rfl, rfl⟩ ⟨Nat.le_of_ble_eq_true rfl, Nat.le_of_ble_eq_true rfl⟩ (q0 := 0) (ci := 4) rfl wdM_0 rfl hl.1 rfl (Nat.le_of_ble_eq_true rfl) dX4_send_9 ⟨Nat.zero_le _, Nat.zero_le _⟩ (fun H locs hP hD hS => ?_)
    obtain ⟨rfl, rfl⟩ := zq_j2 hf
    exact hret _ _ _ _ rfl dX4_send_12 hP hD hS

def f_X4_isAsTold  (x0 : Int32) (x1 : Int32) : Option (Int32) :=
  zq_b1 (f_X4_in (Int32.toInt64 x1) 0 15) (fun r2 =>
  if r2 = 0 then (
  if x1 = 20 then (
  zq_b1 (f_X4_isCut x0) (fun r10 =>
  zq_z r10 (some r10))) else (
  zq_b1 (f_X4_in (Int32.toInt64 x1) 30 33) (fun r6 =>
  if r6 = 0 then (
  some 0) else (
  if x0 = 0 then (
  some 1) else (
  some 0))))) else (
  zq_b1 (f_X4_isFigure x0) (fun r13 =>
  zq_z r13 (some r13))))
set_option maxHeartbeats 4000000 in
set_option maxRecDepth 100000 in
theorem c_X4_isAsTold {l : Launch} {D : va_G} {cy : Nat → ClassId}   {x0 : Int32} {x1 : Int32} {r0 : Int32} (hf : f_X4_isAsTold x0 x1 = some r0) : zMI l yX4_isAsTold (zW yX4_isAsTold cX4_isAsTold 2 (some .boolean)) { frames := 2, cells := 0, slots := 0, locals := 45 } D cy [.int x0, .int x1] [] r0 [] := by
  unfold f_X4_isAsTold at hf
  refine zEI (ty := .boolean) (by decide) (Nat.le_of_ble_eq_true rfl) ?_
  intro p e s9 m9 below meth c A Q C0 hret ls hl hP hD
  have hl : lv_has ls 2 [(0, .int x0), (1, .int x1)] := hl
  have hS : va_S A s9.heap s9.heap [] := va_S.rf
  obtain ⟨hx, hb, hml, hown, hts⟩ := id C0.1
  refine lv_iload_n hx hb dX4_isAsTold_0 rfl (lv_at hl 1 rfl) ?_
  refine lv_i2l hx hb dX4_isAsTold_1 rfl ?_
  refine lv_lconst (v := 0) hx hb dX4_isAsTold_2 (by decide) ?_
  refine lv_ldc2 hx hb hown (hts _ kc_X4_222) dX4_isAsTold_3 ?_
  obtain ⟨r2, hc1, hf⟩ := zq_b1_s hf
  refine zSI (ws' := []) (rest := []) C0 (fun _ h => h) zF.nil (c_X4_in hc1) hP hD hS my_X4_in kl_X4_87 ⟨rfl, rfl⟩ ⟨Nat.le_of_ble_eq_true rfl, Nat.le_of_ble_eq_true rfl⟩ rfl hl.1 rfl (Nat.le_of_ble_eq_true rfl) dX4_isAsTold_6 ⟨Nat.zero_le _, Nat.zero_le _⟩ (fun H locs hP hD hS => ?_)
  refine lv_if_eq (tgt := 17) hx hb dX4_isAsTold_9 (by decide) (fun c3 => ?_) (fun c3 => ?_)
  · have hf := it_t c3 hf
    refine lv_iload_n hx hb dX4_isAsTold_17 rfl (lv_at hl 1 rfl) ?_
    refine lv_bipush (v := 20) hx hb dX4_isAsTold_18 (by decide) ?_
    refine lv_icmp_ne (tgt := 30) hx hb dX4_isAsTold_20 (by decide) (fun c4 => ?_) (fun c4 => ?_)
    · have hf := it_f c4 hf
      refine lv_iload_n hx hb dX4_isAsTold_30 rfl (lv_at hl 1 rfl) ?_
      refine lv_i2l hx hb dX4_isAsTold_31 rfl ?_
      refine lv_ldc2 hx hb hown (hts _ kc_X4_224) dX4_isAsTold_32 ?_
      refine lv_ldc2 hx hb hown (hts _ kc_X4_226) dX4_isAsTold_35 ?_
      obtain ⟨r6, hc5, hf⟩ := zq_b1_s hf
      refine zSI (ws' := []) (rest := []) C0 (fun _ h => h) zF.nil (c_X4_in hc5) hP hD hS my_X4_in kl_X4_87 ⟨rfl, rfl⟩ ⟨Nat.le_of_ble_eq_true rfl, Nat.le_of_ble_eq_true rfl⟩ rfl hl.1 rfl (Nat.le_of_ble_eq_true rfl) dX4_isAsTold_38 ⟨Nat.zero_le _, Nat.zero_le _⟩ (fun H locs hP hD hS => ?_)
      refine lv_if_eq (tgt := 52) hx hb dX4_isAsTold_41 (by decide) (fun c7 => ?_) (fun c7 => ?_)
      · have hf := it_t c7 hf
        refine lv_iconst (v := 0) hx hb dX4_isAsTold_52 (by decide) ?_
        obtain rfl := Option.some.inj hf
        exact hret _ _ _ _ rfl dX4_isAsTold_53 hP hD hS
      · have hf := it_f c7 hf
        refine lv_iload_n hx hb dX4_isAsTold_44 rfl (lv_at hl 0 rfl) ?_
        refine lv_if_ne (tgt := 52) hx hb dX4_isAsTold_45 (by decide) (fun c8 => ?_) (fun c8 => ?_)
        · have hf := it_f c8 hf
          refine lv_iconst (v := 0) hx hb dX4_isAsTold_52 (by decide) ?_
          obtain rfl := Option.some.inj hf
          exact hret _ _ _ _ rfl dX4_isAsTold_53 hP hD hS
        · have hf := it_t c8 hf
          refine lv_iconst (v := 1) hx hb dX4_isAsTold_48 (by decide) ?_
          refine lv_goto (tgt := 53) hx hb dX4_isAsTold_49 (by decide) ?_
          obtain rfl := Option.some.inj hf
          exact hret _ _ _ _ rfl dX4_isAsTold_53 hP hD hS
    · have hf := it_t c4 hf
      refine lv_iload_n hx hb dX4_isAsTold_23 rfl (lv_at hl 0 rfl) ?_
      obtain ⟨r10, hc9, hf⟩ := zq_b1_s hf
      refine zSI (ws' := []) (rest := []) C0 (fun _ h => h) zF.nil (c_X4_isCut hc9) hP hD hS my_X4_isCut kl_X4_185 ⟨rfl, rfl⟩ ⟨Nat.le_of_ble_eq_true rfl, Nat.le_of_ble_eq_true rfl⟩ rfl hl.1 rfl (Nat.le_of_ble_eq_true rfl) dX4_isAsTold_24 ⟨Nat.zero_le _, Nat.zero_le _⟩ (fun H locs hP hD hS => ?_)
      refine lv_goto (tgt := 53) hx hb dX4_isAsTold_27 (by decide) ?_
      obtain ⟨h11, hf⟩ := zq_z_s hf
      obtain rfl := Option.some.inj hf
      exact hret _ _ _ _ (zq_nz h11) dX4_isAsTold_53 hP hD hS
  · have hf := it_f c3 hf
    refine lv_iload_n hx hb dX4_isAsTold_12 rfl (lv_at hl 0 rfl) ?_
    obtain ⟨r13, hc12, hf⟩ := zq_b1_s hf
    refine zSI (ws' := []) (rest := []) C0 (fun _ h => h) zF.nil (c_X4_isFigure hc12) hP hD hS my_X4_isFigure kl_X4_182 ⟨rfl, rfl⟩ ⟨Nat.le_of_ble_eq_true rfl, Nat.le_of_ble_eq_true rfl⟩ rfl hl.1 rfl (Nat.le_of_ble_eq_true rfl) dX4_isAsTold_13 ⟨Nat.zero_le _, Nat.zero_le _⟩ (fun H locs hP hD hS => ?_)
    obtain ⟨h14, hf⟩ := zq_z_s hf
    obtain rfl := Option.some.inj hf
    exact hret _ _ _ _ (zq_nz h14) dX4_isAsTold_16 hP hD hS

def f_X4_doesPair (g : zS) (x1 : Int32) (x2 : Int32) : Option (Int32 × zS) :=
  if 16 ≤ x2 then (
  if x2 = 20 then (
  zq_b2 (f_X4_cut g x1) (fun r8 g9 =>
  if r8 < 0 then (
  some (0, g9)) else (
  some (1, g9)))) else (
  zq_b2 (f_X4_die g (x2 - 30)) (fun r4 g5 =>
  if r4 < 0 then (
  some (0, g5)) else (
  some (1, g5))))) else (
  zq_b2 (f_X4_level g x2 x1) (fun r12 g13 =>
  if r12 < 0 then (
  some (0, g13)) else (
  some (1, g13))))
set_option maxHeartbeats 4000000 in
set_option maxRecDepth 100000 in
theorem c_X4_doesPair {l : Launch} {D : va_G} {ad : Nat → Nat} {cy : Nat → ClassId} {g : zS} {u : zJ} {x1 : Int32} {x2 : Int32} {r0 : Int32} {g' : zS} (hf : f_X4_doesPair g x1 x2 = some (r0, g')) : zMI l yX4_doesPair (zW yX4_doesPair cX4_doesPair 3 (some .boolean)) { frames := 3, cells := 0, slots := 0, locals := 69 } D cy [.ref (ad 0), .int x1, .int x2] (wdM ad cy g u) r0 (wdM ad cy g' u) := by
  unfold f_X4_doesPair at hf
  refine zEI (ty := .boolean) (by decide) (Nat.le_of_ble_eq_true rfl) ?_
  intro p e s9 m9 below meth c A Q C0 hret ls hl hP hD
  have hl : lv_has ls 3 [(0, .ref (ad 0)), (1, .int x1), (2, .int x2)] := hl
  have hS : va_S A s9.heap s9.heap [] := va_S.rf
  obtain ⟨hx, hb, hml, hown, hts⟩ := id C0.1
  refine lv_iload_n hx hb dX4_doesPair_0 rfl (lv_at hl 2 rfl) ?_
  refine lv_bipush (v := 16) hx hb dX4_doesPair_1 (by decide) ?_
  refine lv_icmp_ge (tgt := 23) hx hb dX4_doesPair_3 (by decide) (fun c1 => ?_) (fun c1 => ?_)
  · have hf := it_t c1 hf
    refine lv_iload_n hx hb dX4_doesPair_23 rfl (lv_at hl 2 rfl) ?_
    refine lv_bipush (v := 20) hx hb dX4_doesPair_24 (by decide) ?_
    refine lv_icmp_ne (tgt := 45) hx hb dX4_doesPair_26 (by decide) (fun c2 => ?_) (fun c2 => ?_)
    · have hf := it_f c2 hf
      refine lv_aload_n hx hb dX4_doesPair_45 rfl (lv_at hl 0 rfl) ?_
      refine lv_iload_n hx hb dX4_doesPair_46 rfl (lv_at hl 2 rfl) ?_
      refine lv_bipush (v := 30) hx hb dX4_doesPair_47 (by decide) ?_
      refine lv_isub hx hb dX4_doesPair_49 ?_
      obtain ⟨r4, g5, hc3, hf⟩ := zq_b2_s hf
      refine zVI (ws' := (wdM ad cy g5 u)) (rest := []) C0 (fun _ h => h) zF.id (c_X4_die hc3) hP hD hS my_X4_die kl_X4_234 ⟨rfl, rfl⟩ ⟨Nat.le_of_ble_eq_true rfl, Nat.le_of_ble_eq_true rfl⟩ (q0 := 0) (ci := 4) rfl wdM_0 rfl hl.1 rfl (Nat.le_of_ble_eq_true rfl) dX4_doesPair_50 ⟨Nat.zero_le _, Nat.zero_le _⟩ (fun H locs hP hD hS => ?_)
      refine lv_if_lt (tgt := 60) hx hb dX4_doesPair_53 (by decide) (fun c6 => ?_) (fun c6 => ?_)
      · have hf := it_t c6 hf
        refine lv_iconst (v := 0) hx hb dX4_doesPair_60 (by decide) ?_
        obtain ⟨rfl, rfl⟩ := zq_j2 hf
        exact hret _ _ _ _ rfl dX4_doesPair_61 hP hD hS
      · have hf := it_f c6 hf
        refine lv_iconst (v := 1) hx hb dX4_doesPair_56 (by decide) ?_
        refine lv_goto (tgt := 61) hx hb dX4_doesPair_57 (by decide) ?_
        obtain ⟨rfl, rfl⟩ := zq_j2 hf
        exact hret _ _ _ _ rfl dX4_doesPair_61 hP hD hS
    · have hf := it_t c2 hf
      refine lv_aload_n hx hb dX4_doesPair_29 rfl (lv_at hl 0 rfl) ?_
      refine lv_iload_n hx hb dX4_doesPair_30 rfl (lv_at hl 1 rfl) ?_
      obtain ⟨r8, g9, hc7, hf⟩ := zq_b2_s hf
      refine zVI (ws' := (wdM ad cy g9 u)) (rest := []) C0 (fun _ h => h) zF.id (c_X4_cut hc7) hP hD hS my_X4_cut kl_X4_231 ⟨rfl, rfl⟩ ⟨Nat.le_of_ble_eq_true rfl, Nat.le_of_ble_eq_true rfl⟩ (q0 := 0) (ci := 4) rfl wdM_0 rfl hl.1 rfl (Nat.le_of_ble_eq_true rfl) dX4_doesPair_31 ⟨Nat.zero_le _, Nat.zero_le _⟩ (fun H locs hP hD hS => ?_)
      refine lv_if_lt (tgt := 41) hx hb dX4_doesPair_34 (by decide) (fun c10 => ?_) (fun c10 => ?_)
      · have hf := it_t c10 hf
        refine lv_iconst (v := 0) hx hb dX4_doesPair_41 (by decide) ?_
        refine lv_goto (tgt := 61) hx hb dX4_doesPair_42 (by decide) ?_
        obtain ⟨rfl, rfl⟩ := zq_j2 hf
        exact hret _ _ _ _ rfl dX4_doesPair_61 hP hD hS
      · have hf := it_f c10 hf
        refine lv_iconst (v := 1) hx hb dX4_doesPair_37 (by decide) ?_
        refine lv_goto (tgt := 61) hx hb dX4_doesPair_38 (by decide) ?_
        obtain ⟨rfl, rfl⟩ := zq_j2 hf
        exact hret _ _ _ _ rfl dX4_doesPair_61 hP hD hS
  · have hf := it_f c1 hf
    refine lv_aload_n hx hb dX4_doesPair_6 rfl (lv_at hl 0 rfl) ?_
    refine lv_iload_n hx hb dX4_doesPair_7 rfl (lv_at hl 2 rfl) ?_
    refine lv_iload_n hx hb dX4_doesPair_8 rfl (lv_at hl 1 rfl) ?_
    obtain ⟨r12, g13, hc11, hf⟩ := zq_b2_s hf
    refine zVI (ws' := (wdM ad cy g13 u)) (rest := []) C0 (fun _ h => h) zF.id (c_X4_level hc11) hP hD hS my_X4_level kl_X4_228 ⟨rfl, rfl⟩ ⟨Nat.le_of_ble_eq_true rfl, Nat.le_of_ble_eq_true rfl⟩ (q0 := 0) (ci := 4) rfl wdM_0 rfl hl.1 rfl (Nat.le_of_ble_eq_true rfl) dX4_doesPair_9 ⟨Nat.zero_le _, Nat.zero_le _⟩ (fun H locs hP hD hS => ?_)
    refine lv_if_lt (tgt := 19) hx hb dX4_doesPair_12 (by decide) (fun c14 => ?_) (fun c14 => ?_)
    · have hf := it_t c14 hf
      refine lv_iconst (v := 0) hx hb dX4_doesPair_19 (by decide) ?_
      refine lv_goto (tgt := 61) hx hb dX4_doesPair_20 (by decide) ?_
      obtain ⟨rfl, rfl⟩ := zq_j2 hf
      exact hret _ _ _ _ rfl dX4_doesPair_61 hP hD hS
    · have hf := it_f c14 hf
      refine lv_iconst (v := 1) hx hb dX4_doesPair_15 (by decide) ?_
      refine lv_goto (tgt := 61) hx hb dX4_doesPair_16 (by decide) ?_
      obtain ⟨rfl, rfl⟩ := zq_j2 hf
      exact hret _ _ _ _ rfl dX4_doesPair_61 hP hD hS

def f_X4_dayOf_L7 (x1 : Int32) (x2 : Int32) : Nat → Int32 → Int32 → zS → Option (Int32 × zS)
  | 0, _, _, _ => none
  | q9 + 1, x4, x5, g =>
  if x2 ≤ x5 then (
  some (x4, g)) else (
  if 0 ≤ x4 then (
  some (x4, g)) else (
  zq_rd (g 28) 240 (x1 + (2 * x5)) (fun v3 =>
  zq_rd (g 28) 240 ((x1 + (2 * x5)) + 1) (fun v5 =>
  zq_b2 (f_X4_doesPair g v3 v5) (fun r8 g9 =>
  if r8 = 0 then (
  f_X4_dayOf_L7 x1 x2 q9 x5 (x5 + 1) g9) else (
  f_X4_dayOf_L7 x1 x2 q9 (-9) (x5 + 1) g9))))))
def f_X4_dayOf_L125 (g : zS) : Nat → Int32 → Int32 → Option (Int32)
  | 0, _, _ => none
  | q9 + 1, x5, x6 =>
  if (g 2 0) ≤ x6 then (
  some x5) else (
  zq_b1 (f_X4_ghostsOf g x6) (fun r21 =>
  zq_b1 (f_X4_bits r21) (fun r23 =>
  f_X4_dayOf_L125 g q9 (x5 + r23) (x6 + 1))))
def f_X4_dayOf (g : zS) (x1 : Int32) (x2 : Int32) (x3 : Int32) : Option (Int32 × zS) :=
  zq_b2 (f_X4_dayOf_L7 x1 x2 100 (-9) 0 g) (fun y12 g13 =>
  if x3 = 1 then (
  some (y12, g13)) else (
  if y12 < 0 then (
  if x3 < 10 then (
  zq_b1 (f_X4_frames g13) (fun g18 =>
  zq_b1 (f_X4_dayOf_L125 g18 100 0 0) (fun y25 =>
  if x3 = 0 then (
  zq_b1 (f_X4_lightOfAll g18) (fun r35 =>
  some (r35, g18))) else (
  if x3 = 2 then (
  zq_b1 (f_X4_greatest g18 15) (fun r33 =>
  some (r33, g18))) else (
  if x3 = 3 then (
  zq_b2 (f_X4_darkOfAll g18) (fun r30 g31 =>
  some (r30, g31))) else (
  some (y25, g18))))))) else (
  zq_b1 (f_X4_noLamp g13 (x3 - 10)) (fun r37 =>
  if r37 = 0 then (
  zq_rd (g13 8) 16 (x3 - 10) (fun v39 =>
  some (v39, g13))) else (
  some ((-9), g13))))) else (
  some (((-100) - y12), g13))))
set_option maxHeartbeats 4000000 in
set_option maxRecDepth 100000 in
theorem w_X4_dayOf_L7 {l : Launch} {p : Program} {e : Env} {s9 : State} {m9 : MethodId} {ag : Array Value} {below : List Frame} {meth : Method} {c : Code} {A : Nat → Prop} {Q : State → Prop} {D : va_G} {ad : Nat → Nat} {cy : Nat → ClassId} {u : zJ} {x1 : Int32} {x2 : Int32} {x3 : Int32} (C0 : zCx p s9 m9 ag c cX4_dayOf 7 RX4 D cy A)  {o4 : Int32} {go : zS} (e0 : ∀ (H : Heap) (locs : List Loc) (ls : Array Slot), va_P D vwCl (wdM ad cy go u) H → va_D A (wdM ad cy go u) → va_S A s9.heap H locs → lv_has ls 7 [(0, .ref (ad 0)), (3, .int x3), (4, .int o4)] → W p l e { frames := 5, cells := 0, slots := 0, locals := 111 } s9 m9 ag below meth c H locs 0 0 Q (F0 m9 64 ls [])) : ∀ (q9 : Nat) (x4 : Int32) (x5 : Int32) (g : zS), f_X4_dayOf_L7 x1 x2 q9 x4 x5 g = some (o4, go) → ∀ (H : Heap) (locs : List Loc) (ls : Array Slot), va_P D vwCl (wdM ad cy g u) H → va_D A (wdM ad cy g u) → va_S A s9.heap H locs → lv_has ls 7 [(0, .ref (ad 0)), (1, .int x1), (2, .int x2), (3, .int x3), (4, .int x4), (5, .int x5)] → W p l e { frames := 5, cells := 0, slots := 0, locals := 111 } s9 m9 ag below meth c H locs 0 0 Q (F0 m9 7 ls []) := by
  obtain ⟨hx, hb, hml, hown, hts⟩ := id C0.1
  intro q9
  induction q9 with
  | zero =>
    intro x4 x5 g hf
    rw [f_X4_dayOf_L7] at hf
    cases hf
  | succ q9 ih =>
    intro x4 x5 g hf H locs ls hP hD hS hl
    rw [f_X4_dayOf_L7] at hf
    refine lv_iload hx hb dX4_dayOf_7 (lv_at hl 5 rfl) ?_
    refine lv_iload_n hx hb dX4_dayOf_9 rfl (lv_at hl 2 rfl) ?_
    refine lv_icmp_ge (tgt := 64) hx hb dX4_dayOf_10 (by decide) (fun c1 => ?_) (fun c1 => ?_)
    · have hf := it_t c1 hf
      obtain ⟨rfl, rfl⟩ := zq_j2 hf
      exact e0 _ _ _ hP hD hS (lv_sub hl [0, 3, 4] rfl)
    · have hf := it_f c1 hf
      refine lv_iload hx hb dX4_dayOf_13 (lv_at hl 4 rfl) ?_
      refine lv_if_ge (tgt := 64) hx hb dX4_dayOf_15 (by decide) (fun c2 => ?_) (fun c2 => ?_)
      · have hf := it_t c2 hf
        obtain ⟨rfl, rfl⟩ := zq_j2 hf
        exact e0 _ _ _ hP hD hS (lv_sub hl [0, 3, 4] rfl)
      · have hf := it_f c2 hf
        refine lv_aload_n hx hb dX4_dayOf_18 rfl (lv_at hl 0 rfl) ?_
        refine lv_aload_n hx hb dX4_dayOf_19 rfl (lv_at hl 0 rfl) ?_
        refine gf_X4_68 C0 hP 0 wdM_0 rfl dX4_dayOf_20 ?_
        refine lv_iload_n hx hb dX4_dayOf_23 rfl (lv_at hl 1 rfl) ?_
        refine lv_iconst (v := 2) hx hb dX4_dayOf_24 (by decide) ?_
        refine lv_iload hx hb dX4_dayOf_25 (lv_at hl 5 rfl) ?_
        refine lv_imul hx hb dX4_dayOf_27 ?_
        refine lv_iadd hx hb dX4_dayOf_28 ?_
        obtain ⟨v3, ev3, h4, hf⟩ := zq_rd_s hf
        refine zia C0 hP 20 wdM_20 ev3 h4 dX4_dayOf_29 ?_
        refine lv_aload_n hx hb dX4_dayOf_30 rfl (lv_at hl 0 rfl) ?_
        refine gf_X4_68 C0 hP 0 wdM_0 rfl dX4_dayOf_31 ?_
        refine lv_iload_n hx hb dX4_dayOf_34 rfl (lv_at hl 1 rfl) ?_
        refine lv_iconst (v := 2) hx hb dX4_dayOf_35 (by decide) ?_
        refine lv_iload hx hb dX4_dayOf_36 (lv_at hl 5 rfl) ?_
        refine lv_imul hx hb dX4_dayOf_38 ?_
        refine lv_iadd hx hb dX4_dayOf_39 ?_
        refine lv_iconst (v := 1) hx hb dX4_dayOf_40 (by decide) ?_
        refine lv_iadd hx hb dX4_dayOf_41 ?_
        obtain ⟨v5, ev5, h6, hf⟩ := zq_rd_s hf
        refine zia C0 hP 20 wdM_20 ev5 h6 dX4_dayOf_42 ?_
        obtain ⟨r8, g9, hc7, hf⟩ := zq_b2_s hf
        refine zVI (ws' := (wdM ad cy g9 u)) (rest := []) C0 (fun _ h => h) zF.id (c_X4_doesPair hc7) hP hD hS my_X4_doesPair kl_X4_237 ⟨rfl, rfl⟩ ⟨Nat.le_of_ble_eq_true rfl, Nat.le_of_ble_eq_true rfl⟩ (q0 := 0) (ci := 4) rfl wdM_0 rfl hl.1 rfl (Nat.le_of_ble_eq_true rfl) dX4_dayOf_43 ⟨Nat.zero_le _, Nat.zero_le _⟩ (fun H locs hP hD hS => ?_)
        refine lv_if_eq (tgt := 54) hx hb dX4_dayOf_46 (by decide) (fun c10 => ?_) (fun c10 => ?_)
        · have hf := it_t c10 hf
          refine lv_iload hx hb dX4_dayOf_54 (lv_at hl 5 rfl) ?_
          refine lv_istore (lv' := [(4, .int x5), (0, .ref (ad 0)), (1, .int x1), (2, .int x2), (3, .int x3), (5, .int x5)]) hx hb dX4_dayOf_56 hl (by decide) rfl (fun ls hl => ?_)
          refine lv_iinc (v := (x5 + 1)) (lv' := [(5, .int (x5 + 1)), (4, .int x5), (0, .ref (ad 0)), (1, .int x1), (2, .int x2), (3, .int x3)]) hx hb dX4_dayOf_58 hl (k := 5) rfl rfl (by decide) rfl (fun ls hl => ?_)
          refine lv_goto (tgt := 7) hx hb dX4_dayOf_61 (by decide) ?_
          exact ih x5 (x5 + 1) g9 hf _ _ _ hP hD hS (lv_sub hl [2, 3, 4, 5, 1, 0] rfl)
        · have hf := it_f c10 hf
          refine lv_bipush (v := (-9)) hx hb dX4_dayOf_49 (by decide) ?_
          refine lv_goto (tgt := 56) hx hb dX4_dayOf_51 (by decide) ?_
          refine lv_istore (lv' := [(4, .int (-9)), (0, .ref (ad 0)), (1, .int x1), (2, .int x2), (3, .int x3), (5, .int x5)]) hx hb dX4_dayOf_56 hl (by decide) rfl (fun ls hl => ?_)
          refine lv_iinc (v := (x5 + 1)) (lv' := [(5, .int (x5 + 1)), (4, .int (-9)), (0, .ref (ad 0)), (1, .int x1), (2, .int x2), (3, .int x3)]) hx hb dX4_dayOf_58 hl (k := 5) rfl rfl (by decide) rfl (fun ls hl => ?_)
          refine lv_goto (tgt := 7) hx hb dX4_dayOf_61 (by decide) ?_
          exact ih (-9) (x5 + 1) g9 hf _ _ _ hP hD hS (lv_sub hl [2, 3, 4, 5, 1, 0] rfl)
set_option maxHeartbeats 4000000 in
set_option maxRecDepth 100000 in
theorem w_X4_dayOf_L125 {l : Launch} {p : Program} {e : Env} {s9 : State} {m9 : MethodId} {ag : Array Value} {below : List Frame} {meth : Method} {c : Code} {A : Nat → Prop} {Q : State → Prop} {D : va_G} {ad : Nat → Nat} {cy : Nat → ClassId} {g : zS} {u : zJ} {x3 : Int32} (C0 : zCx p s9 m9 ag c cX4_dayOf 7 RX4 D cy A)  {o5 : Int32} (e0 : ∀ (H : Heap) (locs : List Loc) (ls : Array Slot), va_P D vwCl (wdM ad cy g u) H → va_D A (wdM ad cy g u) → va_S A s9.heap H locs → lv_has ls 7 [(0, .ref (ad 0)), (3, .int x3), (5, .int o5)] → W p l e { frames := 5, cells := 0, slots := 0, locals := 111 } s9 m9 ag below meth c H locs 0 0 Q (F0 m9 154 ls [])) : ∀ (q9 : Nat) (x5 : Int32) (x6 : Int32), f_X4_dayOf_L125 g q9 x5 x6 = some o5 → ∀ (H : Heap) (locs : List Loc) (ls : Array Slot), va_P D vwCl (wdM ad cy g u) H → va_D A (wdM ad cy g u) → va_S A s9.heap H locs → lv_has ls 7 [(0, .ref (ad 0)), (3, .int x3), (5, .int x5), (6, .int x6)] → W p l e { frames := 5, cells := 0, slots := 0, locals := 111 } s9 m9 ag below meth c H locs 0 0 Q (F0 m9 125 ls []) := by
  obtain ⟨hx, hb, hml, hown, hts⟩ := id C0.1
  intro q9
  induction q9 with
  | zero =>
    intro x5 x6 hf
    rw [f_X4_dayOf_L125] at hf
    cases hf
  | succ q9 ih =>
    intro x5 x6 hf H locs ls hP hD hS hl
    rw [f_X4_dayOf_L125] at hf
    refine lv_iload hx hb dX4_dayOf_125 (lv_at hl 3 rfl) ?_
    refine lv_aload_n hx hb dX4_dayOf_127 rfl (lv_at hl 0 rfl) ?_
    refine gf_X4_91 C0 hP 0 wdM_0 rfl dX4_dayOf_128 ?_
    refine lv_icmp_ge (tgt := 154) hx hb dX4_dayOf_131 (by decide) (fun c19 => ?_) (fun c19 => ?_)
    · have hf := it_t c19 hf
      obtain rfl := Option.some.inj hf
      exact e0 _ _ _ hP hD hS (lv_sub hl [0, 1, 2] rfl)
    · have hf := it_f c19 hf
      refine lv_iload hx hb dX4_dayOf_134 (lv_at hl 2 rfl) ?_
      refine lv_aload_n hx hb dX4_dayOf_136 rfl (lv_at hl 0 rfl) ?_
      refine lv_iload hx hb dX4_dayOf_137 (lv_at hl 3 rfl) ?_
      obtain ⟨r21, hc20, hf⟩ := zq_b1_s hf
      refine zVI (ws' := (wdM ad cy g u)) (rest := [.int x5]) C0 (fun _ h => h) zF.id (c_X4_ghostsOf hc20) hP hD hS my_X4_ghostsOf kl_X4_177 ⟨rfl, rfl⟩ ⟨Nat.le_of_ble_eq_true rfl, Nat.le_of_ble_eq_true rfl⟩ (q0 := 0) (ci := 4) rfl wdM_0 rfl hl.1 rfl (Nat.le_of_ble_eq_true rfl) dX4_dayOf_139 ⟨Nat.zero_le _, Nat.zero_le _⟩ (fun H locs hP hD hS => ?_)
      obtain ⟨r23, hc22, hf⟩ := zq_b1_s hf
      refine zSI (ws' := (wdM ad cy g u)) (rest := [.int x5]) C0 (fun _ h => h) zF.nil (c_X4_bits hc22) hP hD hS my_X4_bits kl_X4_195 ⟨rfl, rfl⟩ ⟨Nat.le_of_ble_eq_true rfl, Nat.le_of_ble_eq_true rfl⟩ rfl hl.1 rfl (Nat.le_of_ble_eq_true rfl) dX4_dayOf_142 ⟨Nat.zero_le _, Nat.zero_le _⟩ (fun H locs hP hD hS => ?_)
      refine lv_iadd hx hb dX4_dayOf_145 ?_
      refine lv_istore (lv' := [(5, .int (x5 + r23)), (0, .ref (ad 0)), (3, .int x3), (6, .int x6)]) hx hb dX4_dayOf_146 hl (by decide) rfl (fun ls hl => ?_)
      refine lv_iinc (v := (x6 + 1)) (lv' := [(6, .int (x6 + 1)), (5, .int (x5 + r23)), (0, .ref (ad 0)), (3, .int x3)]) hx hb dX4_dayOf_148 hl (k := 3) rfl rfl (by decide) rfl (fun ls hl => ?_)
      refine lv_goto (tgt := 125) hx hb dX4_dayOf_151 (by decide) ?_
      exact ih (x5 + r23) (x6 + 1) hf _ _ _ hP hD hS (lv_sub hl [2, 3, 1, 0] rfl)
set_option maxHeartbeats 4000000 in
set_option maxRecDepth 100000 in
theorem c_X4_dayOf {l : Launch} {D : va_G} {ad : Nat → Nat} {cy : Nat → ClassId} {g : zS} {u : zJ} {x1 : Int32} {x2 : Int32} {x3 : Int32} {r0 : Int32} {g' : zS} (hf : f_X4_dayOf g x1 x2 x3 = some (r0, g')) : zMI l yX4_dayOf (zW yX4_dayOf cX4_dayOf 7 (some .int)) { frames := 5, cells := 0, slots := 0, locals := 111 } D cy [.ref (ad 0), .int x1, .int x2, .int x3] (wdM ad cy g u) r0 (wdM ad cy g' u) := by
  unfold f_X4_dayOf at hf
  refine zEI (ty := .int) (by decide) (Nat.le_of_ble_eq_true rfl) ?_
  intro p e s9 m9 below meth c A Q C0 hret ls hl hP hD
  have hl : lv_has ls 7 [(0, .ref (ad 0)), (1, .int x1), (2, .int x2), (3, .int x3)] := hl
  have hS : va_S A s9.heap s9.heap [] := va_S.rf
  obtain ⟨hx, hb, hml, hown, hts⟩ := id C0.1
  refine lv_bipush (v := (-9)) hx hb dX4_dayOf_0 (by decide) ?_
  refine lv_istore (lv' := [(4, .int (-9)), (0, .ref (ad 0)), (1, .int x1), (2, .int x2), (3, .int x3)]) hx hb dX4_dayOf_2 hl (by decide) rfl (fun ls hl => ?_)
  refine lv_iconst (v := 0) hx hb dX4_dayOf_4 (by decide) ?_
  refine lv_istore (lv' := [(5, .int 0), (4, .int (-9)), (0, .ref (ad 0)), (1, .int x1), (2, .int x2), (3, .int x3)]) hx hb dX4_dayOf_5 hl (by decide) rfl (fun ls hl => ?_)
  obtain ⟨y12, g13, hL11, hf⟩ := zq_b2_s hf
  refine w_X4_dayOf_L7 C0 (fun H locs ls hP hD hS hl => ?_) 100 (-9) 0 g hL11 _ _ _ hP hD hS (lv_sub hl [2, 3, 4, 5, 1, 0] rfl)
  refine lv_iload_n hx hb dX4_dayOf_64 rfl (lv_at hl 1 rfl) ?_
  refine lv_iconst (v := 1) hx hb dX4_dayOf_65 (by decide) ?_
  refine lv_icmp_ne (tgt := 72) hx hb dX4_dayOf_66 (by decide) (fun c14 => ?_) (fun c14 => ?_)
  · have hf := it_f c14 hf
    refine lv_iload hx hb dX4_dayOf_72 (lv_at hl 2 rfl) ?_
    refine lv_if_lt (tgt := 83) hx hb dX4_dayOf_74 (by decide) (fun c15 => ?_) (fun c15 => ?_)
    · have hf := it_t c15 hf
      refine lv_iload_n hx hb dX4_dayOf_83 rfl (lv_at hl 1 rfl) ?_
      refine lv_bipush (v := 10) hx hb dX4_dayOf_84 (by decide) ?_
      refine lv_icmp_lt (tgt := 115) hx hb dX4_dayOf_86 (by decide) (fun c16 => ?_) (fun c16 => ?_)
      · have hf := it_t c16 hf
        refine lv_aload_n hx hb dX4_dayOf_115 rfl (lv_at hl 0 rfl) ?_
        obtain ⟨g18, hc17, hf⟩ := zq_b1_s hf
        refine zVV (ws' := (wdM ad cy g18 u)) (rest := []) C0 (fun _ h => h) zF.id (c_X4_frames hc17) hP hD hS my_X4_frames kl_X4_162 ⟨rfl, rfl⟩ ⟨Nat.le_of_ble_eq_true rfl, Nat.le_of_ble_eq_true rfl⟩ (q0 := 0) (ci := 4) rfl wdM_0 rfl hl.1 rfl (Nat.le_of_ble_eq_true rfl) dX4_dayOf_116 ⟨Nat.zero_le _, Nat.zero_le _⟩ (fun H locs hP hD hS => ?_)
        refine lv_iconst (v := 0) hx hb dX4_dayOf_119 (by decide) ?_
        refine lv_istore (lv' := [(5, .int 0), (0, .ref (ad 0)), (3, .int x3), (4, .int y12)]) hx hb dX4_dayOf_120 hl (by decide) rfl (fun ls hl => ?_)
        refine lv_iconst (v := 0) hx hb dX4_dayOf_122 (by decide) ?_
        refine lv_istore (lv' := [(6, .int 0), (5, .int 0), (0, .ref (ad 0)), (3, .int x3), (4, .int y12)]) hx hb dX4_dayOf_123 hl (by decide) rfl (fun ls hl => ?_)
        obtain ⟨y25, hL24, hf⟩ := zq_b1_s hf
        refine w_X4_dayOf_L125 C0 (fun H locs ls hP hD hS hl => ?_) 100 0 0 hL24 _ _ _ hP hD hS (lv_sub hl [2, 3, 1, 0] rfl)
        refine lv_iload_n hx hb dX4_dayOf_154 rfl (lv_at hl 1 rfl) ?_
        refine lv_if_ne (tgt := 165) hx hb dX4_dayOf_155 (by decide) (fun c26 => ?_) (fun c26 => ?_)
        · have hf := it_f c26 hf
          refine lv_iload_n hx hb dX4_dayOf_165 rfl (lv_at hl 1 rfl) ?_
          refine lv_iconst (v := 2) hx hb dX4_dayOf_166 (by decide) ?_
          refine lv_icmp_ne (tgt := 179) hx hb dX4_dayOf_167 (by decide) (fun c27 => ?_) (fun c27 => ?_)
          · have hf := it_f c27 hf
            refine lv_iload_n hx hb dX4_dayOf_179 rfl (lv_at hl 1 rfl) ?_
            refine lv_iconst (v := 3) hx hb dX4_dayOf_180 (by decide) ?_
            refine lv_icmp_ne (tgt := 191) hx hb dX4_dayOf_181 (by decide) (fun c28 => ?_) (fun c28 => ?_)
            · have hf := it_f c28 hf
              refine lv_iload hx hb dX4_dayOf_191 (lv_at hl 2 rfl) ?_
              obtain ⟨rfl, rfl⟩ := zq_j2 hf
              exact hret _ _ _ _ rfl dX4_dayOf_193 hP hD hS
            · have hf := it_t c28 hf
              refine lv_aload_n hx hb dX4_dayOf_184 rfl (lv_at hl 0 rfl) ?_
              obtain ⟨r30, g31, hc29, hf⟩ := zq_b2_s hf
              refine zVI (ws' := (wdM ad cy g31 u)) (rest := []) C0 (fun _ h => h) zF.id (c_X4_darkOfAll hc29) hP hD hS my_X4_darkOfAll kl_X4_213 ⟨rfl, rfl⟩ ⟨Nat.le_of_ble_eq_true rfl, Nat.le_of_ble_eq_true rfl⟩ (q0 := 0) (ci := 4) rfl wdM_0 rfl hl.1 rfl (Nat.le_of_ble_eq_true rfl) dX4_dayOf_185 ⟨Nat.zero_le _, Nat.zero_le _⟩ (fun H locs hP hD hS => ?_)
              refine lv_goto (tgt := 193) hx hb dX4_dayOf_188 (by decide) ?_
              obtain ⟨rfl, rfl⟩ := zq_j2 hf
              exact hret _ _ _ _ rfl dX4_dayOf_193 hP hD hS
          · have hf := it_t c27 hf
            refine lv_aload_n hx hb dX4_dayOf_170 rfl (lv_at hl 0 rfl) ?_
            refine lv_bipush (v := 15) hx hb dX4_dayOf_171 (by decide) ?_
            obtain ⟨r33, hc32, hf⟩ := zq_b1_s hf
            refine zVI (ws' := (wdM ad cy g18 u)) (rest := []) C0 (fun _ h => h) zF.id (c_X4_greatest hc32) hP hD hS my_X4_greatest kl_X4_210 ⟨rfl, rfl⟩ ⟨Nat.le_of_ble_eq_true rfl, Nat.le_of_ble_eq_true rfl⟩ (q0 := 0) (ci := 4) rfl wdM_0 rfl hl.1 rfl (Nat.le_of_ble_eq_true rfl) dX4_dayOf_173 ⟨Nat.zero_le _, Nat.zero_le _⟩ (fun H locs hP hD hS => ?_)
            refine lv_goto (tgt := 193) hx hb dX4_dayOf_176 (by decide) ?_
            obtain ⟨rfl, rfl⟩ := zq_j2 hf
            exact hret _ _ _ _ rfl dX4_dayOf_193 hP hD hS
        · have hf := it_t c26 hf
          refine lv_aload_n hx hb dX4_dayOf_158 rfl (lv_at hl 0 rfl) ?_
          obtain ⟨r35, hc34, hf⟩ := zq_b1_s hf
          refine zVI (ws' := (wdM ad cy g18 u)) (rest := []) C0 (fun _ h => h) zF.id (c_X4_lightOfAll hc34) hP hD hS my_X4_lightOfAll kl_X4_240 ⟨rfl, rfl⟩ ⟨Nat.le_of_ble_eq_true rfl, Nat.le_of_ble_eq_true rfl⟩ (q0 := 0) (ci := 4) rfl wdM_0 rfl hl.1 rfl (Nat.le_of_ble_eq_true rfl) dX4_dayOf_159 ⟨Nat.zero_le _, Nat.zero_le _⟩ (fun H locs hP hD hS => ?_)
          refine lv_goto (tgt := 193) hx hb dX4_dayOf_162 (by decide) ?_
          obtain ⟨rfl, rfl⟩ := zq_j2 hf
          exact hret _ _ _ _ rfl dX4_dayOf_193 hP hD hS
      · have hf := it_f c16 hf
        refine lv_aload_n hx hb dX4_dayOf_89 rfl (lv_at hl 0 rfl) ?_
        refine lv_iload_n hx hb dX4_dayOf_90 rfl (lv_at hl 1 rfl) ?_
        refine lv_bipush (v := 10) hx hb dX4_dayOf_91 (by decide) ?_
        refine lv_isub hx hb dX4_dayOf_93 ?_
        obtain ⟨r37, hc36, hf⟩ := zq_b1_s hf
        refine zVI (ws' := (wdM ad cy g13 u)) (rest := []) C0 (fun _ h => h) zF.id (c_X4_noLamp hc36) hP hD hS my_X4_noLamp kl_X4_171 ⟨rfl, rfl⟩ ⟨Nat.le_of_ble_eq_true rfl, Nat.le_of_ble_eq_true rfl⟩ (q0 := 0) (ci := 4) rfl wdM_0 rfl hl.1 rfl (Nat.le_of_ble_eq_true rfl) dX4_dayOf_94 ⟨Nat.zero_le _, Nat.zero_le _⟩ (fun H locs hP hD hS => ?_)
        refine lv_if_eq (tgt := 105) hx hb dX4_dayOf_97 (by decide) (fun c38 => ?_) (fun c38 => ?_)
        · have hf := it_t c38 hf
          refine lv_aload_n hx hb dX4_dayOf_105 rfl (lv_at hl 0 rfl) ?_
          refine gf_X4_22 C0 hP 0 wdM_0 rfl dX4_dayOf_106 ?_
          refine lv_iload_n hx hb dX4_dayOf_109 rfl (lv_at hl 1 rfl) ?_
          refine lv_bipush (v := 10) hx hb dX4_dayOf_110 (by decide) ?_
          refine lv_isub hx hb dX4_dayOf_112 ?_
          obtain ⟨v39, ev39, h40, hf⟩ := zq_rd_s hf
          refine zia C0 hP 5 wdM_5 ev39 h40 dX4_dayOf_113 ?_
          obtain ⟨rfl, rfl⟩ := zq_j2 hf
          exact hret _ _ _ _ rfl dX4_dayOf_114 hP hD hS
        · have hf := it_f c38 hf
          refine lv_bipush (v := (-9)) hx hb dX4_dayOf_100 (by decide) ?_
          refine lv_goto (tgt := 114) hx hb dX4_dayOf_102 (by decide) ?_
          obtain ⟨rfl, rfl⟩ := zq_j2 hf
          exact hret _ _ _ _ rfl dX4_dayOf_114 hP hD hS
    · have hf := it_f c15 hf
      refine lv_bipush (v := (-100)) hx hb dX4_dayOf_77 (by decide) ?_
      refine lv_iload hx hb dX4_dayOf_79 (lv_at hl 2 rfl) ?_
      refine lv_isub hx hb dX4_dayOf_81 ?_
      obtain ⟨rfl, rfl⟩ := zq_j2 hf
      exact hret _ _ _ _ rfl dX4_dayOf_82 hP hD hS
  · have hf := it_t c14 hf
    refine lv_iload hx hb dX4_dayOf_69 (lv_at hl 2 rfl) ?_
    obtain ⟨rfl, rfl⟩ := zq_j2 hf
    exact hret _ _ _ _ rfl dX4_dayOf_71 hP hD hS

def f_X4_day_L122 (g : zS) (x4 : Int32) (x7 : Int32) : Nat → Int32 → Option ((Unit) ⊕ (Unit))
  | 0, _ => none
  | q9 + 1, x8 =>
  if x4 ≤ x8 then (
  some (Sum.inl ())) else (
  zq_rd (g 28) 240 (x7 + (2 * x8)) (fun v25 =>
  zq_rd (g 28) 240 ((x7 + (2 * x8)) + 1) (fun v27 =>
  zq_b1 (f_X4_isAsTold v25 v27) (fun r30 =>
  if r30 = 0 then (
  some (Sum.inr ())) else (
  f_X4_day_L122 g x4 x7 q9 (x8 + 1))))))
def f_X4_day_L183  : Nat → Int32 → zS → Option (zS)
  | 0, _, _ => none
  | q9 + 1, x9, g =>
  if (g 2 0) ≤ x9 then (
  some g) else (
  zq_rd (g 8) 16 x9 (fun v34 =>
  zq_in 16 x9 (zq_lt (va_up g 19 (upd (g 19) (Int32.toNatClampNeg x9) v34)) (fun g37 =>
  f_X4_day_L183 q9 (x9 + 1) g37))))
def f_X4_day_L215  : Nat → Int32 → zS → Option (zS)
  | 0, _, _ => none
  | q9 + 1, x9, g =>
  if (g 1 0) ≤ x9 then (
  some g) else (
  zq_rd (g 7) 4 x9 (fun v41 =>
  zq_in 4 x9 (zq_lt (va_up g 20 (upd (g 20) (Int32.toNatClampNeg x9) v41)) (fun g44 =>
  f_X4_day_L215 q9 (x9 + 1) g44))))
def f_X4_day_L265  : Nat → Int32 → zS → Option (zS)
  | 0, _, _ => none
  | q9 + 1, x10, g =>
  if (g 2 0) ≤ x10 then (
  some g) else (
  zq_rd (g 19) 16 x10 (fun v52 =>
  zq_in 16 x10 (zq_lt (va_up g 8 (upd (g 8) (Int32.toNatClampNeg x10) v52)) (fun g55 =>
  f_X4_day_L265 q9 (x10 + 1) g55))))
def f_X4_day_L297  : Nat → Int32 → zS → Option (zS)
  | 0, _, _ => none
  | q9 + 1, x10, g =>
  if (g 1 0) ≤ x10 then (
  some g) else (
  zq_rd (g 20) 4 x10 (fun v59 =>
  zq_in 4 x10 (zq_lt (va_up g 7 (upd (g 7) (Int32.toNatClampNeg x10) v59)) (fun g62 =>
  f_X4_day_L297 q9 (x10 + 1) g62))))
def f_X4_day_J73 (j1 : Int32) (j2 : Int32) (j3 : Int32) (j4 : Int32) (j5 : Int32) (g : zS) : Option (Int32 × zS) :=
  if (g 1 0) = 0 then (
  zq_b2 (f_X4_refused g (-3)) (fun r72 g73 =>
  some (r72, g73))) else (
  zq_b2 (f_X4_cellsBarred g j1 j2 j3 (2 * (Int32.toInt64 j4))) (fun r21 g22 =>
  if 0 ≤ r21 then (
  zq_s1_1 (f_X4_day_L122 g22 j4 ((60 * j1) + j3) 100 0) (fun _u =>
  zq_b1 (f_X4_day_L183 100 0 g22) (fun g39 =>
  zq_b1 (f_X4_day_L215 100 0 g39) (fun g46 =>
  zq_b2 (f_X4_dayOf g46 ((60 * j1) + j3) j4 j5) (fun r48 g49 =>
  zq_lt (va_up g49 3 (fun _ => (g22 3 0))) (fun g50 =>
  zq_b1 (f_X4_day_L265 100 0 g50) (fun g57 =>
  zq_b1 (f_X4_day_L297 100 0 g57) (fun g64 =>
  zq_b2 (f_X4_refused g64 r48) (fun r66 g67 =>
  some (r66, g67))))))))) (fun _u =>
  zq_b2 (f_X4_refused g22 (-2)) (fun r69 g70 =>
  some (r69, g70)))) else (
  some (r21, g22))))
def f_X4_day (g : zS) (x1 : Int32) (x2 : Int32) (x3 : Int32) (x4 : Int32) (x5 : Int32) : Option (Int32 × zS) :=
  zq_b1 (f_X4_noSheet x1) (fun r2 =>
  if r2 = 0 then (
  zq_b1 (f_X4_in (Int32.toInt64 x2) 0 2) (fun r5 =>
  if r5 = 0 then (
  zq_b2 (f_X4_refused g (-2)) (fun r8 g9 =>
  some (r8, g9))) else (
  zq_b1 (f_X4_in (Int32.toInt64 x4) 0 20) (fun r11 =>
  if r11 = 0 then (
  zq_b2 (f_X4_refused g (-2)) (fun r14 g15 =>
  some (r14, g15))) else (
  zq_b1 (f_X4_in (Int32.toInt64 x5) 0 4) (fun r17 =>
  if r17 = 0 then (
  zq_b1 (f_X4_in (Int32.toInt64 x5) 10 25) (fun r75 =>
  if r75 = 0 then (
  zq_b2 (f_X4_refused g (-2)) (fun r78 g79 =>
  some (r78, g79))) else (
  f_X4_day_J73 x1 x2 x3 x4 x5 g))) else (
  f_X4_day_J73 x1 x2 x3 x4 x5 g))))))) else (
  zq_b2 (f_X4_refused g (-1)) (fun r81 g82 =>
  some (r81, g82))))
set_option maxHeartbeats 4000000 in
set_option maxRecDepth 100000 in
theorem w_X4_day_L122 {l : Launch} {p : Program} {e : Env} {s9 : State} {m9 : MethodId} {ag : Array Value} {below : List Frame} {meth : Method} {c : Code} {A : Nat → Prop} {Q : State → Prop} {D : va_G} {ad : Nat → Nat} {cy : Nat → ClassId} {g : zS} {u : zJ} {x4 : Int32} {x7 : Int32} {x5 : Int32} (C0 : zCx p s9 m9 ag c cX4_day 11 RX4 D cy A)  {out : (Unit) ⊕ (Unit)} (e0 : ∀ (uu : Unit), out = Sum.inl uu → ∀ (H : Heap) (locs : List Loc) (ls : Array Slot), va_P D vwCl (wdM ad cy g u) H → va_D A (wdM ad cy g u) → va_S A s9.heap H locs → lv_has ls 11 [(0, .ref (ad 0)), (4, .int x4), (5, .int x5), (7, .int x7)] → W p l e { frames := 6, cells := 0, slots := 0, locals := 137 } s9 m9 ag below meth c H locs 0 0 Q (F0 m9 174 ls [])) (e1 : ∀ (uu : Unit), out = Sum.inr uu → ∀ (H : Heap) (locs : List Loc) (ls : Array Slot), va_P D vwCl (wdM ad cy g u) H → va_D A (wdM ad cy g u) → va_S A s9.heap H locs → lv_has ls 11 [(0, .ref (ad 0))] → W p l e { frames := 6, cells := 0, slots := 0, locals := 137 } s9 m9 ag below meth c H locs 0 0 Q (F0 m9 161 ls [])) : ∀ (q9 : Nat) (x8 : Int32), f_X4_day_L122 g x4 x7 q9 x8 = some out → ∀ (H : Heap) (locs : List Loc) (ls : Array Slot), va_P D vwCl (wdM ad cy g u) H → va_D A (wdM ad cy g u) → va_S A s9.heap H locs → lv_has ls 11 [(0, .ref (ad 0)), (4, .int x4), (5, .int x5), (7, .int x7), (8, .int x8)] → W p l e { frames := 6, cells := 0, slots := 0, locals := 137 } s9 m9 ag below meth c H locs 0 0 Q (F0 m9 122 ls []) := by
  obtain ⟨hx, hb, hml, hown, hts⟩ := id C0.1
  intro q9
  induction q9 with
  | zero =>
    intro x8 hf
    rw [f_X4_day_L122] at hf
    cases hf
  | succ q9 ih =>
    intro x8 hf H locs ls hP hD hS hl
    rw [f_X4_day_L122] at hf
    refine lv_iload hx hb dX4_day_122 (lv_at hl 4 rfl) ?_
    refine lv_iload hx hb dX4_day_124 (lv_at hl 1 rfl) ?_
    refine lv_icmp_ge (tgt := 174) hx hb dX4_day_126 (by decide) (fun c24 => ?_) (fun c24 => ?_)
    · have hf := it_t c24 hf
      exact e0 () (Option.some.inj hf).symm _ _ _ hP hD hS (lv_sub hl [0, 1, 2, 3] rfl)
    · have hf := it_f c24 hf
      refine lv_aload_n hx hb dX4_day_129 rfl (lv_at hl 0 rfl) ?_
      refine gf_X4_68 C0 hP 0 wdM_0 rfl dX4_day_130 ?_
      refine lv_iload hx hb dX4_day_133 (lv_at hl 3 rfl) ?_
      refine lv_iconst (v := 2) hx hb dX4_day_135 (by decide) ?_
      refine lv_iload hx hb dX4_day_136 (lv_at hl 4 rfl) ?_
      refine lv_imul hx hb dX4_day_138 ?_
      refine lv_iadd hx hb dX4_day_139 ?_
      obtain ⟨v25, ev25, h26, hf⟩ := zq_rd_s hf
      refine zia C0 hP 20 wdM_20 ev25 h26 dX4_day_140 ?_
      refine lv_aload_n hx hb dX4_day_141 rfl (lv_at hl 0 rfl) ?_
      refine gf_X4_68 C0 hP 0 wdM_0 rfl dX4_day_142 ?_
      refine lv_iload hx hb dX4_day_145 (lv_at hl 3 rfl) ?_
      refine lv_iconst (v := 2) hx hb dX4_day_147 (by decide) ?_
      refine lv_iload hx hb dX4_day_148 (lv_at hl 4 rfl) ?_
      refine lv_imul hx hb dX4_day_150 ?_
      refine lv_iadd hx hb dX4_day_151 ?_
      refine lv_iconst (v := 1) hx hb dX4_day_152 (by decide) ?_
      refine lv_iadd hx hb dX4_day_153 ?_
      obtain ⟨v27, ev27, h28, hf⟩ := zq_rd_s hf
      refine zia C0 hP 20 wdM_20 ev27 h28 dX4_day_154 ?_
      obtain ⟨r30, hc29, hf⟩ := zq_b1_s hf
      refine zSI (ws' := (wdM ad cy g u)) (rest := []) C0 (fun _ h => h) zF.nil (c_X4_isAsTold hc29) hP hD hS my_X4_isAsTold kl_X4_247 ⟨rfl, rfl⟩ ⟨Nat.le_of_ble_eq_true rfl, Nat.le_of_ble_eq_true rfl⟩ rfl hl.1 rfl (Nat.le_of_ble_eq_true rfl) dX4_day_155 ⟨Nat.zero_le _, Nat.zero_le _⟩ (fun H locs hP hD hS => ?_)
      refine lv_if_ne (tgt := 168) hx hb dX4_day_158 (by decide) (fun c31 => ?_) (fun c31 => ?_)
      · have hf := it_f c31 hf
        refine lv_iinc (v := (x8 + 1)) (lv' := [(8, .int (x8 + 1)), (0, .ref (ad 0)), (4, .int x4), (5, .int x5), (7, .int x7)]) hx hb dX4_day_168 hl (k := 4) rfl rfl (by decide) rfl (fun ls hl => ?_)
        refine lv_goto (tgt := 122) hx hb dX4_day_171 (by decide) ?_
        exact ih (x8 + 1) hf _ _ _ hP hD hS (lv_sub hl [1, 2, 3, 4, 0] rfl)
      · have hf := it_t c31 hf
        exact e1 () (Option.some.inj hf).symm _ _ _ hP hD hS (lv_sub hl [0] rfl)
set_option maxHeartbeats 4000000 in
set_option maxRecDepth 100000 in
theorem w_X4_day_L183 {l : Launch} {p : Program} {e : Env} {s9 : State} {m9 : MethodId} {ag : Array Value} {below : List Frame} {meth : Method} {c : Code} {A : Nat → Prop} {Q : State → Prop} {D : va_G} {ad : Nat → Nat} {cy : Nat → ClassId} {u : zJ} {x4 : Int32} {x5 : Int32} {x7 : Int32} {x8 : Int32} (C0 : zCx p s9 m9 ag c cX4_day 11 RX4 D cy A)  {go : zS} (e0 : ∀ (H : Heap) (locs : List Loc) (ls : Array Slot), va_P D vwCl (wdM ad cy go u) H → va_D A (wdM ad cy go u) → va_S A s9.heap H locs → lv_has ls 11 [(0, .ref (ad 0)), (4, .int x4), (5, .int x5), (7, .int x7), (8, .int x8)] → W p l e { frames := 6, cells := 0, slots := 0, locals := 137 } s9 m9 ag below meth c H locs 0 0 Q (F0 m9 212 ls [])) : ∀ (q9 : Nat) (x9 : Int32) (g : zS), f_X4_day_L183 q9 x9 g = some go → ∀ (H : Heap) (locs : List Loc) (ls : Array Slot), va_P D vwCl (wdM ad cy g u) H → va_D A (wdM ad cy g u) → va_S A s9.heap H locs → lv_has ls 11 [(0, .ref (ad 0)), (4, .int x4), (5, .int x5), (7, .int x7), (8, .int x8), (9, .int x9)] → W p l e { frames := 6, cells := 0, slots := 0, locals := 137 } s9 m9 ag below meth c H locs 0 0 Q (F0 m9 183 ls []) := by
  obtain ⟨hx, hb, hml, hown, hts⟩ := id C0.1
  intro q9
  induction q9 with
  | zero =>
    intro x9 g hf
    rw [f_X4_day_L183] at hf
    cases hf
  | succ q9 ih =>
    intro x9 g hf H locs ls hP hD hS hl
    rw [f_X4_day_L183] at hf
    refine lv_iload hx hb dX4_day_183 (lv_at hl 5 rfl) ?_
    refine lv_aload_n hx hb dX4_day_185 rfl (lv_at hl 0 rfl) ?_
    refine gf_X4_91 C0 hP 0 wdM_0 rfl dX4_day_186 ?_
    refine lv_icmp_ge (tgt := 212) hx hb dX4_day_189 (by decide) (fun c33 => ?_) (fun c33 => ?_)
    · have hf := it_t c33 hf
      obtain rfl := Option.some.inj hf
      exact e0 _ _ _ hP hD hS (lv_sub hl [0, 1, 2, 3, 4] rfl)
    · have hf := it_f c33 hf
      refine lv_aload_n hx hb dX4_day_192 rfl (lv_at hl 0 rfl) ?_
      refine gf_X4_43 C0 hP 0 wdM_0 rfl dX4_day_193 ?_
      refine lv_iload hx hb dX4_day_196 (lv_at hl 5 rfl) ?_
      refine lv_aload_n hx hb dX4_day_198 rfl (lv_at hl 0 rfl) ?_
      refine gf_X4_22 C0 hP 0 wdM_0 rfl dX4_day_199 ?_
      refine lv_iload hx hb dX4_day_202 (lv_at hl 5 rfl) ?_
      obtain ⟨v34, ev34, h35, hf⟩ := zq_rd_s hf
      refine zia C0 hP 5 wdM_5 ev34 h35 dX4_day_204 ?_
      obtain ⟨h36, hf⟩ := zq_in_s hf
      obtain ⟨g37, eg37, hf⟩ := zq_lt_s hf
      refine zis (ws' := (wdM ad cy g37 u)) C0 hP hD hS 12 wdM_12 h36 (by rw [eg37]; rfl) dX4_day_205 (fun H locs hP hD hS => ?_)
      refine lv_iinc (v := (x9 + 1)) (lv' := [(9, .int (x9 + 1)), (0, .ref (ad 0)), (4, .int x4), (5, .int x5), (7, .int x7), (8, .int x8)]) hx hb dX4_day_206 hl (k := 5) rfl rfl (by decide) rfl (fun ls hl => ?_)
      refine lv_goto (tgt := 183) hx hb dX4_day_209 (by decide) ?_
      exact ih (x9 + 1) g37 hf _ _ _ hP hD hS (lv_sub hl [1, 2, 3, 4, 5, 0] rfl)
set_option maxHeartbeats 4000000 in
set_option maxRecDepth 100000 in
theorem w_X4_day_L215 {l : Launch} {p : Program} {e : Env} {s9 : State} {m9 : MethodId} {ag : Array Value} {below : List Frame} {meth : Method} {c : Code} {A : Nat → Prop} {Q : State → Prop} {D : va_G} {ad : Nat → Nat} {cy : Nat → ClassId} {u : zJ} {x4 : Int32} {x5 : Int32} {x7 : Int32} {x8 : Int32} (C0 : zCx p s9 m9 ag c cX4_day 11 RX4 D cy A)  {go : zS} (e0 : ∀ (H : Heap) (locs : List Loc) (ls : Array Slot), va_P D vwCl (wdM ad cy go u) H → va_D A (wdM ad cy go u) → va_S A s9.heap H locs → lv_has ls 11 [(0, .ref (ad 0)), (4, .int x4), (5, .int x5), (7, .int x7), (8, .int x8)] → W p l e { frames := 6, cells := 0, slots := 0, locals := 137 } s9 m9 ag below meth c H locs 0 0 Q (F0 m9 244 ls [])) : ∀ (q9 : Nat) (x9 : Int32) (g : zS), f_X4_day_L215 q9 x9 g = some go → ∀ (H : Heap) (locs : List Loc) (ls : Array Slot), va_P D vwCl (wdM ad cy g u) H → va_D A (wdM ad cy g u) → va_S A s9.heap H locs → lv_has ls 11 [(0, .ref (ad 0)), (4, .int x4), (5, .int x5), (7, .int x7), (8, .int x8), (9, .int x9)] → W p l e { frames := 6, cells := 0, slots := 0, locals := 137 } s9 m9 ag below meth c H locs 0 0 Q (F0 m9 215 ls []) := by
  obtain ⟨hx, hb, hml, hown, hts⟩ := id C0.1
  intro q9
  induction q9 with
  | zero =>
    intro x9 g hf
    rw [f_X4_day_L215] at hf
    cases hf
  | succ q9 ih =>
    intro x9 g hf H locs ls hP hD hS hl
    rw [f_X4_day_L215] at hf
    refine lv_iload hx hb dX4_day_215 (lv_at hl 5 rfl) ?_
    refine lv_aload_n hx hb dX4_day_217 rfl (lv_at hl 0 rfl) ?_
    refine gf_X4_84 C0 hP 0 wdM_0 rfl dX4_day_218 ?_
    refine lv_icmp_ge (tgt := 244) hx hb dX4_day_221 (by decide) (fun c40 => ?_) (fun c40 => ?_)
    · have hf := it_t c40 hf
      obtain rfl := Option.some.inj hf
      exact e0 _ _ _ hP hD hS (lv_sub hl [0, 1, 2, 3, 4] rfl)
    · have hf := it_f c40 hf
      refine lv_aload_n hx hb dX4_day_224 rfl (lv_at hl 0 rfl) ?_
      refine gf_X4_46 C0 hP 0 wdM_0 rfl dX4_day_225 ?_
      refine lv_iload hx hb dX4_day_228 (lv_at hl 5 rfl) ?_
      refine lv_aload_n hx hb dX4_day_230 rfl (lv_at hl 0 rfl) ?_
      refine gf_X4_19 C0 hP 0 wdM_0 rfl dX4_day_231 ?_
      refine lv_iload hx hb dX4_day_234 (lv_at hl 5 rfl) ?_
      obtain ⟨v41, ev41, h42, hf⟩ := zq_rd_s hf
      refine zia C0 hP 4 wdM_4 ev41 h42 dX4_day_236 ?_
      obtain ⟨h43, hf⟩ := zq_in_s hf
      obtain ⟨g44, eg44, hf⟩ := zq_lt_s hf
      refine zis (ws' := (wdM ad cy g44 u)) C0 hP hD hS 13 wdM_13 h43 (by rw [eg44]; rfl) dX4_day_237 (fun H locs hP hD hS => ?_)
      refine lv_iinc (v := (x9 + 1)) (lv' := [(9, .int (x9 + 1)), (0, .ref (ad 0)), (4, .int x4), (5, .int x5), (7, .int x7), (8, .int x8)]) hx hb dX4_day_238 hl (k := 5) rfl rfl (by decide) rfl (fun ls hl => ?_)
      refine lv_goto (tgt := 215) hx hb dX4_day_241 (by decide) ?_
      exact ih (x9 + 1) g44 hf _ _ _ hP hD hS (lv_sub hl [1, 2, 3, 4, 5, 0] rfl)
set_option maxHeartbeats 4000000 in
set_option maxRecDepth 100000 in
theorem w_X4_day_L265 {l : Launch} {p : Program} {e : Env} {s9 : State} {m9 : MethodId} {ag : Array Value} {below : List Frame} {meth : Method} {c : Code} {A : Nat → Prop} {Q : State → Prop} {D : va_G} {ad : Nat → Nat} {cy : Nat → ClassId} {u : zJ} {x9 : Int32} (C0 : zCx p s9 m9 ag c cX4_day 11 RX4 D cy A)  {go : zS} (e0 : ∀ (H : Heap) (locs : List Loc) (ls : Array Slot), va_P D vwCl (wdM ad cy go u) H → va_D A (wdM ad cy go u) → va_S A s9.heap H locs → lv_has ls 11 [(0, .ref (ad 0)), (9, .int x9)] → W p l e { frames := 6, cells := 0, slots := 0, locals := 137 } s9 m9 ag below meth c H locs 0 0 Q (F0 m9 294 ls [])) : ∀ (q9 : Nat) (x10 : Int32) (g : zS), f_X4_day_L265 q9 x10 g = some go → ∀ (H : Heap) (locs : List Loc) (ls : Array Slot), va_P D vwCl (wdM ad cy g u) H → va_D A (wdM ad cy g u) → va_S A s9.heap H locs → lv_has ls 11 [(0, .ref (ad 0)), (9, .int x9), (10, .int x10)] → W p l e { frames := 6, cells := 0, slots := 0, locals := 137 } s9 m9 ag below meth c H locs 0 0 Q (F0 m9 265 ls []) := by
  obtain ⟨hx, hb, hml, hown, hts⟩ := id C0.1
  intro q9
  induction q9 with
  | zero =>
    intro x10 g hf
    rw [f_X4_day_L265] at hf
    cases hf
  | succ q9 ih =>
    intro x10 g hf H locs ls hP hD hS hl
    rw [f_X4_day_L265] at hf
    refine lv_iload hx hb dX4_day_265 (lv_at hl 2 rfl) ?_
    refine lv_aload_n hx hb dX4_day_267 rfl (lv_at hl 0 rfl) ?_
    refine gf_X4_91 C0 hP 0 wdM_0 rfl dX4_day_268 ?_
    refine lv_icmp_ge (tgt := 294) hx hb dX4_day_271 (by decide) (fun c51 => ?_) (fun c51 => ?_)
    · have hf := it_t c51 hf
      obtain rfl := Option.some.inj hf
      exact e0 _ _ _ hP hD hS (lv_sub hl [0, 1] rfl)
    · have hf := it_f c51 hf
      refine lv_aload_n hx hb dX4_day_274 rfl (lv_at hl 0 rfl) ?_
      refine gf_X4_22 C0 hP 0 wdM_0 rfl dX4_day_275 ?_
      refine lv_iload hx hb dX4_day_278 (lv_at hl 2 rfl) ?_
      refine lv_aload_n hx hb dX4_day_280 rfl (lv_at hl 0 rfl) ?_
      refine gf_X4_43 C0 hP 0 wdM_0 rfl dX4_day_281 ?_
      refine lv_iload hx hb dX4_day_284 (lv_at hl 2 rfl) ?_
      obtain ⟨v52, ev52, h53, hf⟩ := zq_rd_s hf
      refine zia C0 hP 12 wdM_12 ev52 h53 dX4_day_286 ?_
      obtain ⟨h54, hf⟩ := zq_in_s hf
      obtain ⟨g55, eg55, hf⟩ := zq_lt_s hf
      refine zis (ws' := (wdM ad cy g55 u)) C0 hP hD hS 5 wdM_5 h54 (by rw [eg55]; rfl) dX4_day_287 (fun H locs hP hD hS => ?_)
      refine lv_iinc (v := (x10 + 1)) (lv' := [(10, .int (x10 + 1)), (0, .ref (ad 0)), (9, .int x9)]) hx hb dX4_day_288 hl (k := 2) rfl rfl (by decide) rfl (fun ls hl => ?_)
      refine lv_goto (tgt := 265) hx hb dX4_day_291 (by decide) ?_
      exact ih (x10 + 1) g55 hf _ _ _ hP hD hS (lv_sub hl [1, 2, 0] rfl)
set_option maxHeartbeats 4000000 in
set_option maxRecDepth 100000 in
theorem w_X4_day_L297 {l : Launch} {p : Program} {e : Env} {s9 : State} {m9 : MethodId} {ag : Array Value} {below : List Frame} {meth : Method} {c : Code} {A : Nat → Prop} {Q : State → Prop} {D : va_G} {ad : Nat → Nat} {cy : Nat → ClassId} {u : zJ} {x9 : Int32} (C0 : zCx p s9 m9 ag c cX4_day 11 RX4 D cy A)  {go : zS} (e0 : ∀ (H : Heap) (locs : List Loc) (ls : Array Slot), va_P D vwCl (wdM ad cy go u) H → va_D A (wdM ad cy go u) → va_S A s9.heap H locs → lv_has ls 11 [(0, .ref (ad 0)), (9, .int x9)] → W p l e { frames := 6, cells := 0, slots := 0, locals := 137 } s9 m9 ag below meth c H locs 0 0 Q (F0 m9 326 ls [])) : ∀ (q9 : Nat) (x10 : Int32) (g : zS), f_X4_day_L297 q9 x10 g = some go → ∀ (H : Heap) (locs : List Loc) (ls : Array Slot), va_P D vwCl (wdM ad cy g u) H → va_D A (wdM ad cy g u) → va_S A s9.heap H locs → lv_has ls 11 [(0, .ref (ad 0)), (9, .int x9), (10, .int x10)] → W p l e { frames := 6, cells := 0, slots := 0, locals := 137 } s9 m9 ag below meth c H locs 0 0 Q (F0 m9 297 ls []) := by
  obtain ⟨hx, hb, hml, hown, hts⟩ := id C0.1
  intro q9
  induction q9 with
  | zero =>
    intro x10 g hf
    rw [f_X4_day_L297] at hf
    cases hf
  | succ q9 ih =>
    intro x10 g hf H locs ls hP hD hS hl
    rw [f_X4_day_L297] at hf
    refine lv_iload hx hb dX4_day_297 (lv_at hl 2 rfl) ?_
    refine lv_aload_n hx hb dX4_day_299 rfl (lv_at hl 0 rfl) ?_
    refine gf_X4_84 C0 hP 0 wdM_0 rfl dX4_day_300 ?_
    refine lv_icmp_ge (tgt := 326) hx hb dX4_day_303 (by decide) (fun c58 => ?_) (fun c58 => ?_)
    · have hf := it_t c58 hf
      obtain rfl := Option.some.inj hf
      exact e0 _ _ _ hP hD hS (lv_sub hl [0, 1] rfl)
    · have hf := it_f c58 hf
      refine lv_aload_n hx hb dX4_day_306 rfl (lv_at hl 0 rfl) ?_
      refine gf_X4_19 C0 hP 0 wdM_0 rfl dX4_day_307 ?_
      refine lv_iload hx hb dX4_day_310 (lv_at hl 2 rfl) ?_
      refine lv_aload_n hx hb dX4_day_312 rfl (lv_at hl 0 rfl) ?_
      refine gf_X4_46 C0 hP 0 wdM_0 rfl dX4_day_313 ?_
      refine lv_iload hx hb dX4_day_316 (lv_at hl 2 rfl) ?_
      obtain ⟨v59, ev59, h60, hf⟩ := zq_rd_s hf
      refine zia C0 hP 13 wdM_13 ev59 h60 dX4_day_318 ?_
      obtain ⟨h61, hf⟩ := zq_in_s hf
      obtain ⟨g62, eg62, hf⟩ := zq_lt_s hf
      refine zis (ws' := (wdM ad cy g62 u)) C0 hP hD hS 4 wdM_4 h61 (by rw [eg62]; rfl) dX4_day_319 (fun H locs hP hD hS => ?_)
      refine lv_iinc (v := (x10 + 1)) (lv' := [(10, .int (x10 + 1)), (0, .ref (ad 0)), (9, .int x9)]) hx hb dX4_day_320 hl (k := 2) rfl rfl (by decide) rfl (fun ls hl => ?_)
      refine lv_goto (tgt := 297) hx hb dX4_day_323 (by decide) ?_
      exact ih (x10 + 1) g62 hf _ _ _ hP hD hS (lv_sub hl [1, 2, 0] rfl)
set_option maxHeartbeats 4000000 in
set_option maxRecDepth 100000 in
theorem c_X4_day {l : Launch} {D : va_G} {ad : Nat → Nat} {cy : Nat → ClassId} {g : zS} {u : zJ} {x1 : Int32} {x2 : Int32} {x3 : Int32} {x4 : Int32} {x5 : Int32} {r0 : Int32} {g' : zS} (hf : f_X4_day g x1 x2 x3 x4 x5 = some (r0, g')) : zMI l yX4_day (zW yX4_day cX4_day 11 (some .int)) { frames := 6, cells := 0, slots := 0, locals := 137 } D cy [.ref (ad 0), .int x1, .int x2, .int x3, .int x4, .int x5] (wdM ad cy g u) r0 (wdM ad cy g' u) := by
  unfold f_X4_day at hf
  refine zEI (ty := .int) (by decide) (Nat.le_of_ble_eq_true rfl) ?_
  intro p e s9 m9 below meth c A Q C0 hret ls hl hP hD
  have hl : lv_has ls 11 [(0, .ref (ad 0)), (1, .int x1), (2, .int x2), (3, .int x3), (4, .int x4), (5, .int x5)] := hl
  have hS : va_S A s9.heap s9.heap [] := va_S.rf
  obtain ⟨hx, hb, hml, hown, hts⟩ := id C0.1
  have hj73 : ∀ (j1 : Int32) (j2 : Int32) (j3 : Int32) (j4 : Int32) (j5 : Int32) (g : zS), f_X4_day_J73 j1 j2 j3 j4 j5 g = some (r0, g') → ∀ (H : Heap) (locs : List Loc) (ls : Array Slot), va_P D vwCl (wdM ad cy g u) H → va_D A (wdM ad cy g u) → va_S A s9.heap H locs → lv_has ls 11 [(0, .ref (ad 0)), (1, .int j1), (2, .int j2), (3, .int j3), (4, .int j4), (5, .int j5)] → W p l e { frames := 6, cells := 0, slots := 0, locals := 137 } s9 m9 [.ref (ad 0), .int x1, .int x2, .int x3, .int x4, .int x5].toArray below meth c H locs 0 0 Q (F0 m9 73 ls []) := by
    intro j1 j2 j3 j4 j5 g hf H locs ls hP hD hS hl
    unfold f_X4_day_J73 at hf
    refine lv_aload_n hx hb dX4_day_73 rfl (lv_at hl 0 rfl) ?_
    refine gf_X4_84 C0 hP 0 wdM_0 rfl dX4_day_74 ?_
    refine lv_if_ne (tgt := 87) hx hb dX4_day_77 (by decide) (fun c19 => ?_) (fun c19 => ?_)
    · have hf := it_f c19 hf
      refine lv_aload_n hx hb dX4_day_87 rfl (lv_at hl 0 rfl) ?_
      refine lv_iload_n hx hb dX4_day_88 rfl (lv_at hl 1 rfl) ?_
      refine lv_iload_n hx hb dX4_day_89 rfl (lv_at hl 2 rfl) ?_
      refine lv_iload_n hx hb dX4_day_90 rfl (lv_at hl 3 rfl) ?_
      refine lv_ldc2 hx hb hown (hts _ kc_X4_135) dX4_day_91 ?_
      refine lv_iload hx hb dX4_day_94 (lv_at hl 4 rfl) ?_
      refine lv_i2l hx hb dX4_day_96 rfl ?_
      refine lv_lmul hx hb dX4_day_97 ?_
      obtain ⟨r21, g22, hc20, hf⟩ := zq_b2_s hf
      refine zVI (ws' := (wdM ad cy g22 u)) (rest := []) C0 (fun _ h => h) zF.id (c_X4_cellsBarred hc20) hP hD hS my_X4_cellsBarred kl_X4_137 ⟨rfl, rfl⟩ ⟨Nat.le_of_ble_eq_true rfl, Nat.le_of_ble_eq_true rfl⟩ (q0 := 0) (ci := 4) rfl wdM_0 rfl hl.1 rfl (Nat.le_of_ble_eq_true rfl) dX4_day_98 ⟨Nat.zero_le _, Nat.zero_le _⟩ (fun H locs hP hD hS => ?_)
      refine lv_istore (lv' := [(6, .int r21), (0, .ref (ad 0)), (1, .int j1), (2, .int j2), (3, .int j3), (4, .int j4), (5, .int j5)]) hx hb dX4_day_101 hl (by decide) rfl (fun ls hl => ?_)
      refine lv_iload hx hb dX4_day_103 (lv_at hl 0 rfl) ?_
      refine lv_if_ge (tgt := 111) hx hb dX4_day_105 (by decide) (fun c23 => ?_) (fun c23 => ?_)
      · have hf := it_t c23 hf
        refine lv_bipush (v := 60) hx hb dX4_day_111 (by decide) ?_
        refine lv_iload_n hx hb dX4_day_113 rfl (lv_at hl 2 rfl) ?_
        refine lv_imul hx hb dX4_day_114 ?_
        refine lv_iload_n hx hb dX4_day_115 rfl (lv_at hl 4 rfl) ?_
        refine lv_iadd hx hb dX4_day_116 ?_
        refine lv_istore (lv' := [(7, .int ((60 * j1) + j3)), (6, .int r21), (0, .ref (ad 0)), (1, .int j1), (2, .int j2), (3, .int j3), (4, .int j4), (5, .int j5)]) hx hb dX4_day_117 hl (by decide) rfl (fun ls hl => ?_)
        refine lv_iconst (v := 0) hx hb dX4_day_119 (by decide) ?_
        refine lv_istore (lv' := [(8, .int 0), (7, .int ((60 * j1) + j3)), (6, .int r21), (0, .ref (ad 0)), (1, .int j1), (2, .int j2), (3, .int j3), (4, .int j4), (5, .int j5)]) hx hb dX4_day_120 hl (by decide) rfl (fun ls hl => ?_)
        rcases zq_s1_1_s hf with ⟨_u, hL32, hf⟩ | ⟨_u, hL32, hf⟩
        · refine w_X4_day_L122 C0 (zq_el1 ?_) (zq_nr1) 100 0 hL32 _ _ _ hP hD hS (lv_sub hl [3, 7, 8, 1, 0] rfl)
          intro H locs ls hP hD hS hl
          refine lv_aload_n hx hb dX4_day_174 rfl (lv_at hl 0 rfl) ?_
          refine gf_X4_144 C0 hP 0 wdM_0 rfl dX4_day_175 ?_
          refine lv_istore (lv' := [(8, .int (g22 3 0)), (0, .ref (ad 0)), (4, .int j4), (5, .int j5), (7, .int ((60 * j1) + j3))]) hx hb dX4_day_178 hl (by decide) rfl (fun ls hl => ?_)
          refine lv_iconst (v := 0) hx hb dX4_day_180 (by decide) ?_
          refine lv_istore (lv' := [(9, .int 0), (8, .int (g22 3 0)), (0, .ref (ad 0)), (4, .int j4), (5, .int j5), (7, .int ((60 * j1) + j3))]) hx hb dX4_day_181 hl (by decide) rfl (fun ls hl => ?_)
          obtain ⟨g39, hL38, hf⟩ := zq_b1_s hf
          refine w_X4_day_L183 C0 (fun H locs ls hP hD hS hl => ?_) 100 0 g22 hL38 _ _ _ hP hD hS (lv_sub hl [2, 3, 4, 5, 1, 0] rfl)
          refine lv_iconst (v := 0) hx hb dX4_day_212 (by decide) ?_
          refine lv_istore (lv' := [(9, .int 0), (0, .ref (ad 0)), (4, .int j4), (5, .int j5), (7, .int ((60 * j1) + j3)), (8, .int (g22 3 0))]) hx hb dX4_day_213 hl (by decide) rfl (fun ls hl => ?_)
          obtain ⟨g46, hL45, hf⟩ := zq_b1_s hf
          refine w_X4_day_L215 C0 (fun H locs ls hP hD hS hl => ?_) 100 0 g39 hL45 _ _ _ hP hD hS (lv_sub hl [1, 2, 3, 4, 5, 0] rfl)
          refine lv_aload_n hx hb dX4_day_244 rfl (lv_at hl 0 rfl) ?_
          refine lv_iload hx hb dX4_day_245 (lv_at hl 3 rfl) ?_
          refine lv_iload hx hb dX4_day_247 (lv_at hl 1 rfl) ?_
          refine lv_iload hx hb dX4_day_249 (lv_at hl 2 rfl) ?_
          obtain ⟨r48, g49, hc47, hf⟩ := zq_b2_s hf
          refine zVI (ws' := (wdM ad cy g49 u)) (rest := []) C0 (fun _ h => h) zF.id (c_X4_dayOf hc47) hP hD hS my_X4_dayOf kl_X4_250 ⟨rfl, rfl⟩ ⟨Nat.le_of_ble_eq_true rfl, Nat.le_of_ble_eq_true rfl⟩ (q0 := 0) (ci := 4) rfl wdM_0 rfl hl.1 rfl (Nat.le_of_ble_eq_true rfl) dX4_day_251 ⟨Nat.zero_le _, Nat.zero_le _⟩ (fun H locs hP hD hS => ?_)
          refine lv_istore (lv' := [(9, .int r48), (0, .ref (ad 0)), (4, .int j4), (5, .int j5), (7, .int ((60 * j1) + j3)), (8, .int (g22 3 0))]) hx hb dX4_day_254 hl (by decide) rfl (fun ls hl => ?_)
          refine lv_aload_n hx hb dX4_day_256 rfl (lv_at hl 1 rfl) ?_
          refine lv_iload hx hb dX4_day_257 (lv_at hl 5 rfl) ?_
          obtain ⟨g50, eg50, hf⟩ := zq_lt_s hf
          refine pf_X4_144 (ws' := (wdM ad cy g50 u)) C0 hP hD hS 0 wdM_0 (Nat.le_of_ble_eq_true rfl) (by rw [eg50]; rfl) dX4_day_259 (fun H locs hP hD hS => ?_)
          refine lv_iconst (v := 0) hx hb dX4_day_262 (by decide) ?_
          refine lv_istore (lv' := [(10, .int 0), (9, .int r48), (0, .ref (ad 0)), (4, .int j4), (5, .int j5), (7, .int ((60 * j1) + j3)), (8, .int (g22 3 0))]) hx hb dX4_day_263 hl (by decide) rfl (fun ls hl => ?_)
          obtain ⟨g57, hL56, hf⟩ := zq_b1_s hf
          refine w_X4_day_L265 C0 (fun H locs ls hP hD hS hl => ?_) 100 0 g50 hL56 _ _ _ hP hD hS (lv_sub hl [2, 1, 0] rfl)
          refine lv_iconst (v := 0) hx hb dX4_day_294 (by decide) ?_
          refine lv_istore (lv' := [(10, .int 0), (0, .ref (ad 0)), (9, .int r48)]) hx hb dX4_day_295 hl (by decide) rfl (fun ls hl => ?_)
          obtain ⟨g64, hL63, hf⟩ := zq_b1_s hf
          refine w_X4_day_L297 C0 (fun H locs ls hP hD hS hl => ?_) 100 0 g57 hL63 _ _ _ hP hD hS (lv_sub hl [1, 2, 0] rfl)
          refine lv_aload_n hx hb dX4_day_326 rfl (lv_at hl 0 rfl) ?_
          refine lv_iload hx hb dX4_day_327 (lv_at hl 1 rfl) ?_
          obtain ⟨r66, g67, hc65, hf⟩ := zq_b2_s hf
          refine zVI (ws' := (wdM ad cy g67 u)) (rest := []) C0 (fun _ h => h) zF.id (c_X4_refused hc65) hP hD hS my_X4_refused kl_X4_132 ⟨rfl, rfl⟩ ⟨Nat.le_of_ble_eq_true rfl, Nat.le_of_ble_eq_true rfl⟩ (q0 := 0) (ci := 4) rfl wdM_0 rfl hl.1 rfl (Nat.le_of_ble_eq_true rfl) dX4_day_329 ⟨Nat.zero_le _, Nat.zero_le _⟩ (fun H locs hP hD hS => ?_)
          obtain ⟨rfl, rfl⟩ := zq_j2 hf
          exact hret _ _ _ _ rfl dX4_day_332 hP hD hS
        · refine w_X4_day_L122 C0 (zq_nl1) (zq_er1 ?_) 100 0 hL32 _ _ _ hP hD hS (lv_sub hl [3, 7, 8, 1, 0] rfl)
          intro H locs ls hP hD hS hl
          refine lv_aload_n hx hb dX4_day_161 rfl (lv_at hl 0 rfl) ?_
          refine lv_bipush (v := (-2)) hx hb dX4_day_162 (by decide) ?_
          obtain ⟨r69, g70, hc68, hf⟩ := zq_b2_s hf
          refine zVI (ws' := (wdM ad cy g70 u)) (rest := []) C0 (fun _ h => h) zF.id (c_X4_refused hc68) hP hD hS my_X4_refused kl_X4_132 ⟨rfl, rfl⟩ ⟨Nat.le_of_ble_eq_true rfl, Nat.le_of_ble_eq_true rfl⟩ (q0 := 0) (ci := 4) rfl wdM_0 rfl hl.1 rfl (Nat.le_of_ble_eq_true rfl) dX4_day_164 ⟨Nat.zero_le _, Nat.zero_le _⟩ (fun H locs hP hD hS => ?_)
          obtain ⟨rfl, rfl⟩ := zq_j2 hf
          exact hret _ _ _ _ rfl dX4_day_167 hP hD hS
      · have hf := it_f c23 hf
        refine lv_iload hx hb dX4_day_108 (lv_at hl 0 rfl) ?_
        obtain ⟨rfl, rfl⟩ := zq_j2 hf
        exact hret _ _ _ _ rfl dX4_day_110 hP hD hS
    · have hf := it_t c19 hf
      refine lv_aload_n hx hb dX4_day_80 rfl (lv_at hl 0 rfl) ?_
      refine lv_bipush (v := (-3)) hx hb dX4_day_81 (by decide) ?_
      obtain ⟨r72, g73, hc71, hf⟩ := zq_b2_s hf
      refine zVI (ws' := (wdM ad cy g73 u)) (rest := []) C0 (fun _ h => h) zF.id (c_X4_refused hc71) hP hD hS my_X4_refused kl_X4_132 ⟨rfl, rfl⟩ ⟨Nat.le_of_ble_eq_true rfl, Nat.le_of_ble_eq_true rfl⟩ (q0 := 0) (ci := 4) rfl wdM_0 rfl hl.1 rfl (Nat.le_of_ble_eq_true rfl) dX4_day_83 ⟨Nat.zero_le _, Nat.zero_le _⟩ (fun H locs hP hD hS => ?_)
      obtain ⟨rfl, rfl⟩ := zq_j2 hf
      exact hret _ _ _ _ rfl dX4_day_86 hP hD hS
  refine lv_iload_n hx hb dX4_day_0 rfl (lv_at hl 1 rfl) ?_
  obtain ⟨r2, hc1, hf⟩ := zq_b1_s hf
  refine zSI (ws' := (wdM ad cy g u)) (rest := []) C0 (fun _ h => h) zF.nil (c_X4_noSheet hc1) hP hD hS my_X4_noSheet kl_X4_128 ⟨rfl, rfl⟩ ⟨Nat.le_of_ble_eq_true rfl, Nat.le_of_ble_eq_true rfl⟩ rfl hl.1 rfl (Nat.le_of_ble_eq_true rfl) dX4_day_1 ⟨Nat.zero_le _, Nat.zero_le _⟩ (fun H locs hP hD hS => ?_)
  refine lv_if_eq (tgt := 13) hx hb dX4_day_4 (by decide) (fun c3 => ?_) (fun c3 => ?_)
  · have hf := it_t c3 hf
    refine lv_iload_n hx hb dX4_day_13 rfl (lv_at hl 2 rfl) ?_
    refine lv_i2l hx hb dX4_day_14 rfl ?_
    refine lv_lconst (v := 0) hx hb dX4_day_15 (by decide) ?_
    refine lv_ldc2 hx hb hown (hts _ kc_X4_135) dX4_day_16 ?_
    obtain ⟨r5, hc4, hf⟩ := zq_b1_s hf
    refine zSI (ws' := (wdM ad cy g u)) (rest := []) C0 (fun _ h => h) zF.nil (c_X4_in hc4) hP hD hS my_X4_in kl_X4_87 ⟨rfl, rfl⟩ ⟨Nat.le_of_ble_eq_true rfl, Nat.le_of_ble_eq_true rfl⟩ rfl hl.1 rfl (Nat.le_of_ble_eq_true rfl) dX4_day_19 ⟨Nat.zero_le _, Nat.zero_le _⟩ (fun H locs hP hD hS => ?_)
    refine lv_if_eq (tgt := 66) hx hb dX4_day_22 (by decide) (fun c6 => ?_) (fun c6 => ?_)
    · have hf := it_t c6 hf
      refine lv_aload_n hx hb dX4_day_66 rfl (lv_at hl 0 rfl) ?_
      refine lv_bipush (v := (-2)) hx hb dX4_day_67 (by decide) ?_
      obtain ⟨r8, g9, hc7, hf⟩ := zq_b2_s hf
      refine zVI (ws' := (wdM ad cy g9 u)) (rest := []) C0 (fun _ h => h) zF.id (c_X4_refused hc7) hP hD hS my_X4_refused kl_X4_132 ⟨rfl, rfl⟩ ⟨Nat.le_of_ble_eq_true rfl, Nat.le_of_ble_eq_true rfl⟩ (q0 := 0) (ci := 4) rfl wdM_0 rfl hl.1 rfl (Nat.le_of_ble_eq_true rfl) dX4_day_69 ⟨Nat.zero_le _, Nat.zero_le _⟩ (fun H locs hP hD hS => ?_)
      obtain ⟨rfl, rfl⟩ := zq_j2 hf
      exact hret _ _ _ _ rfl dX4_day_72 hP hD hS
    · have hf := it_f c6 hf
      refine lv_iload hx hb dX4_day_25 (lv_at hl 4 rfl) ?_
      refine lv_i2l hx hb dX4_day_27 rfl ?_
      refine lv_lconst (v := 0) hx hb dX4_day_28 (by decide) ?_
      refine lv_ldc2 hx hb hown (hts _ kc_X4_220) dX4_day_29 ?_
      obtain ⟨r11, hc10, hf⟩ := zq_b1_s hf
      refine zSI (ws' := (wdM ad cy g u)) (rest := []) C0 (fun _ h => h) zF.nil (c_X4_in hc10) hP hD hS my_X4_in kl_X4_87 ⟨rfl, rfl⟩ ⟨Nat.le_of_ble_eq_true rfl, Nat.le_of_ble_eq_true rfl⟩ rfl hl.1 rfl (Nat.le_of_ble_eq_true rfl) dX4_day_32 ⟨Nat.zero_le _, Nat.zero_le _⟩ (fun H locs hP hD hS => ?_)
      refine lv_if_eq (tgt := 66) hx hb dX4_day_35 (by decide) (fun c12 => ?_) (fun c12 => ?_)
      · have hf := it_t c12 hf
        refine lv_aload_n hx hb dX4_day_66 rfl (lv_at hl 0 rfl) ?_
        refine lv_bipush (v := (-2)) hx hb dX4_day_67 (by decide) ?_
        obtain ⟨r14, g15, hc13, hf⟩ := zq_b2_s hf
        refine zVI (ws' := (wdM ad cy g15 u)) (rest := []) C0 (fun _ h => h) zF.id (c_X4_refused hc13) hP hD hS my_X4_refused kl_X4_132 ⟨rfl, rfl⟩ ⟨Nat.le_of_ble_eq_true rfl, Nat.le_of_ble_eq_true rfl⟩ (q0 := 0) (ci := 4) rfl wdM_0 rfl hl.1 rfl (Nat.le_of_ble_eq_true rfl) dX4_day_69 ⟨Nat.zero_le _, Nat.zero_le _⟩ (fun H locs hP hD hS => ?_)
        obtain ⟨rfl, rfl⟩ := zq_j2 hf
        exact hret _ _ _ _ rfl dX4_day_72 hP hD hS
      · have hf := it_f c12 hf
        refine lv_iload hx hb dX4_day_38 (lv_at hl 5 rfl) ?_
        refine lv_i2l hx hb dX4_day_40 rfl ?_
        refine lv_lconst (v := 0) hx hb dX4_day_41 (by decide) ?_
        refine lv_ldc2 hx hb hown (hts _ kc_X4_190) dX4_day_42 ?_
        obtain ⟨r17, hc16, hf⟩ := zq_b1_s hf
        refine zSI (ws' := (wdM ad cy g u)) (rest := []) C0 (fun _ h => h) zF.nil (c_X4_in hc16) hP hD hS my_X4_in kl_X4_87 ⟨rfl, rfl⟩ ⟨Nat.le_of_ble_eq_true rfl, Nat.le_of_ble_eq_true rfl⟩ rfl hl.1 rfl (Nat.le_of_ble_eq_true rfl) dX4_day_45 ⟨Nat.zero_le _, Nat.zero_le _⟩ (fun H locs hP hD hS => ?_)
        refine lv_if_ne (tgt := 73) hx hb dX4_day_48 (by decide) (fun c18 => ?_) (fun c18 => ?_)
        · have hf := it_f c18 hf
          exact hj73 x1 x2 x3 x4 x5 g hf _ _ _ hP hD hS (lv_sub hl [0, 1, 2, 3, 4, 5] rfl)
        · have hf := it_t c18 hf
          refine lv_iload hx hb dX4_day_51 (lv_at hl 5 rfl) ?_
          refine lv_i2l hx hb dX4_day_53 rfl ?_
          refine lv_ldc2 hx hb hown (hts _ kc_X4_243) dX4_day_54 ?_
          refine lv_ldc2 hx hb hown (hts _ kc_X4_245) dX4_day_57 ?_
          obtain ⟨r75, hc74, hf⟩ := zq_b1_s hf
          refine zSI (ws' := (wdM ad cy g u)) (rest := []) C0 (fun _ h => h) zF.nil (c_X4_in hc74) hP hD hS my_X4_in kl_X4_87 ⟨rfl, rfl⟩ ⟨Nat.le_of_ble_eq_true rfl, Nat.le_of_ble_eq_true rfl⟩ rfl hl.1 rfl (Nat.le_of_ble_eq_true rfl) dX4_day_60 ⟨Nat.zero_le _, Nat.zero_le _⟩ (fun H locs hP hD hS => ?_)
          refine lv_if_ne (tgt := 73) hx hb dX4_day_63 (by decide) (fun c76 => ?_) (fun c76 => ?_)
          · have hf := it_f c76 hf
            exact hj73 x1 x2 x3 x4 x5 g hf _ _ _ hP hD hS (lv_sub hl [0, 1, 2, 3, 4, 5] rfl)
          · have hf := it_t c76 hf
            refine lv_aload_n hx hb dX4_day_66 rfl (lv_at hl 0 rfl) ?_
            refine lv_bipush (v := (-2)) hx hb dX4_day_67 (by decide) ?_
            obtain ⟨r78, g79, hc77, hf⟩ := zq_b2_s hf
            refine zVI (ws' := (wdM ad cy g79 u)) (rest := []) C0 (fun _ h => h) zF.id (c_X4_refused hc77) hP hD hS my_X4_refused kl_X4_132 ⟨rfl, rfl⟩ ⟨Nat.le_of_ble_eq_true rfl, Nat.le_of_ble_eq_true rfl⟩ (q0 := 0) (ci := 4) rfl wdM_0 rfl hl.1 rfl (Nat.le_of_ble_eq_true rfl) dX4_day_69 ⟨Nat.zero_le _, Nat.zero_le _⟩ (fun H locs hP hD hS => ?_)
            obtain ⟨rfl, rfl⟩ := zq_j2 hf
            exact hret _ _ _ _ rfl dX4_day_72 hP hD hS
  · have hf := it_f c3 hf
    refine lv_aload_n hx hb dX4_day_7 rfl (lv_at hl 0 rfl) ?_
    refine lv_iconst (v := (-1)) hx hb dX4_day_8 (by decide) ?_
    obtain ⟨r81, g82, hc80, hf⟩ := zq_b2_s hf
    refine zVI (ws' := (wdM ad cy g82 u)) (rest := []) C0 (fun _ h => h) zF.id (c_X4_refused hc80) hP hD hS my_X4_refused kl_X4_132 ⟨rfl, rfl⟩ ⟨Nat.le_of_ble_eq_true rfl, Nat.le_of_ble_eq_true rfl⟩ (q0 := 0) (ci := 4) rfl wdM_0 rfl hl.1 rfl (Nat.le_of_ble_eq_true rfl) dX4_day_9 ⟨Nat.zero_le _, Nat.zero_le _⟩ (fun H locs hP hD hS => ?_)
    obtain ⟨rfl, rfl⟩ := zq_j2 hf
    exact hret _ _ _ _ rfl dX4_day_12 hP hD hS

def f_X4_reading (g : zS) (x1 : Int32) (x2 : Int32) (x3 : Int32) : Option (Int32 × zS) :=
  zq_b1 (f_X4_noLamp g x2) (fun r2 =>
  if r2 = 0 then (
  zq_b1 (f_X4_in (Int32.toInt64 x1) 0 14) (fun r5 =>
  if r5 = 0 then (
  some ((-2), g)) else (
  zq_b1 (f_X4_in (Int32.toInt64 x3) 0 1) (fun r8 =>
  if r8 = 0 then (
  some ((-2), g)) else (
  if (g 21 0) = 8 then (
  some ((-4), g)) else (
  zq_in 8 (g 21 0) (zq_lt (va_up g 22 (upd (g 22) (Int32.toNatClampNeg (g 21 0)) x1)) (fun g12 =>
  zq_in 8 (g12 21 0) (zq_lt (va_up g12 23 (upd (g12 23) (Int32.toNatClampNeg (g12 21 0)) x2)) (fun g14 =>
  zq_in 8 (g14 21 0) (zq_lt (va_up g14 24 (upd (g14 24) (Int32.toNatClampNeg (g14 21 0)) x3)) (fun g16 =>
  zq_lt (va_up g16 21 (fun _ => ((g16 21 0) + 1))) (fun g17 =>
  some (((g17 21 0) - 1), g17)))))))))))))) else (
  some ((-1), g)))
set_option maxHeartbeats 4000000 in
set_option maxRecDepth 100000 in
theorem c_X4_reading {l : Launch} {D : va_G} {ad : Nat → Nat} {cy : Nat → ClassId} {g : zS} {u : zJ} {x1 : Int32} {x2 : Int32} {x3 : Int32} {r0 : Int32} {g' : zS} (hf : f_X4_reading g x1 x2 x3 = some (r0, g')) : zMI l yX4_reading (zW yX4_reading cX4_reading 4 (some .int)) { frames := 2, cells := 0, slots := 0, locals := 46 } D cy [.ref (ad 0), .int x1, .int x2, .int x3] (wdM ad cy g u) r0 (wdM ad cy g' u) := by
  unfold f_X4_reading at hf
  refine zEI (ty := .int) (by decide) (Nat.le_of_ble_eq_true rfl) ?_
  intro p e s9 m9 below meth c A Q C0 hret ls hl hP hD
  have hl : lv_has ls 4 [(0, .ref (ad 0)), (1, .int x1), (2, .int x2), (3, .int x3)] := hl
  have hS : va_S A s9.heap s9.heap [] := va_S.rf
  obtain ⟨hx, hb, hml, hown, hts⟩ := id C0.1
  refine lv_aload_n hx hb dX4_reading_0 rfl (lv_at hl 0 rfl) ?_
  refine lv_iload_n hx hb dX4_reading_1 rfl (lv_at hl 2 rfl) ?_
  obtain ⟨r2, hc1, hf⟩ := zq_b1_s hf
  refine zVI (ws' := (wdM ad cy g u)) (rest := []) C0 (fun _ h => h) zF.id (c_X4_noLamp hc1) hP hD hS my_X4_noLamp kl_X4_171 ⟨rfl, rfl⟩ ⟨Nat.le_of_ble_eq_true rfl, Nat.le_of_ble_eq_true rfl⟩ (q0 := 0) (ci := 4) rfl wdM_0 rfl hl.1 rfl (Nat.le_of_ble_eq_true rfl) dX4_reading_2 ⟨Nat.zero_le _, Nat.zero_le _⟩ (fun H locs hP hD hS => ?_)
  refine lv_if_eq (tgt := 10) hx hb dX4_reading_5 (by decide) (fun c3 => ?_) (fun c3 => ?_)
  · have hf := it_t c3 hf
    refine lv_iload_n hx hb dX4_reading_10 rfl (lv_at hl 1 rfl) ?_
    refine lv_i2l hx hb dX4_reading_11 rfl ?_
    refine lv_lconst (v := 0) hx hb dX4_reading_12 (by decide) ?_
    refine lv_ldc2 hx hb hown (hts _ kc_X4_188) dX4_reading_13 ?_
    obtain ⟨r5, hc4, hf⟩ := zq_b1_s hf
    refine zSI (ws' := (wdM ad cy g u)) (rest := []) C0 (fun _ h => h) zF.nil (c_X4_in hc4) hP hD hS my_X4_in kl_X4_87 ⟨rfl, rfl⟩ ⟨Nat.le_of_ble_eq_true rfl, Nat.le_of_ble_eq_true rfl⟩ rfl hl.1 rfl (Nat.le_of_ble_eq_true rfl) dX4_reading_16 ⟨Nat.zero_le _, Nat.zero_le _⟩ (fun H locs hP hD hS => ?_)
    refine lv_if_eq (tgt := 32) hx hb dX4_reading_19 (by decide) (fun c6 => ?_) (fun c6 => ?_)
    · have hf := it_t c6 hf
      refine lv_bipush (v := (-2)) hx hb dX4_reading_32 (by decide) ?_
      obtain ⟨rfl, rfl⟩ := zq_j2 hf
      exact hret _ _ _ _ rfl dX4_reading_34 hP hD hS
    · have hf := it_f c6 hf
      refine lv_iload_n hx hb dX4_reading_22 rfl (lv_at hl 3 rfl) ?_
      refine lv_i2l hx hb dX4_reading_23 rfl ?_
      refine lv_lconst (v := 0) hx hb dX4_reading_24 (by decide) ?_
      refine lv_lconst (v := 1) hx hb dX4_reading_25 (by decide) ?_
      obtain ⟨r8, hc7, hf⟩ := zq_b1_s hf
      refine zSI (ws' := (wdM ad cy g u)) (rest := []) C0 (fun _ h => h) zF.nil (c_X4_in hc7) hP hD hS my_X4_in kl_X4_87 ⟨rfl, rfl⟩ ⟨Nat.le_of_ble_eq_true rfl, Nat.le_of_ble_eq_true rfl⟩ rfl hl.1 rfl (Nat.le_of_ble_eq_true rfl) dX4_reading_26 ⟨Nat.zero_le _, Nat.zero_le _⟩ (fun H locs hP hD hS => ?_)
      refine lv_if_ne (tgt := 35) hx hb dX4_reading_29 (by decide) (fun c9 => ?_) (fun c9 => ?_)
      · have hf := it_f c9 hf
        refine lv_aload_n hx hb dX4_reading_35 rfl (lv_at hl 0 rfl) ?_
        refine gf_X4_147 C0 hP 0 wdM_0 rfl dX4_reading_36 ?_
        refine lv_bipush (v := 8) hx hb dX4_reading_39 (by decide) ?_
        refine lv_icmp_ne (tgt := 47) hx hb dX4_reading_41 (by decide) (fun c10 => ?_) (fun c10 => ?_)
        · have hf := it_f c10 hf
          refine lv_aload_n hx hb dX4_reading_47 rfl (lv_at hl 0 rfl) ?_
          refine gf_X4_49 C0 hP 0 wdM_0 rfl dX4_reading_48 ?_
          refine lv_aload_n hx hb dX4_reading_51 rfl (lv_at hl 0 rfl) ?_
          refine gf_X4_147 C0 hP 0 wdM_0 rfl dX4_reading_52 ?_
          refine lv_iload_n hx hb dX4_reading_55 rfl (lv_at hl 1 rfl) ?_
          obtain ⟨h11, hf⟩ := zq_in_s hf
          obtain ⟨g12, eg12, hf⟩ := zq_lt_s hf
          refine zis (ws' := (wdM ad cy g12 u)) C0 hP hD hS 14 wdM_14 h11 (by rw [eg12]; rfl) dX4_reading_56 (fun H locs hP hD hS => ?_)
          refine lv_aload_n hx hb dX4_reading_57 rfl (lv_at hl 0 rfl) ?_
          refine gf_X4_52 C0 hP 0 wdM_0 rfl dX4_reading_58 ?_
          refine lv_aload_n hx hb dX4_reading_61 rfl (lv_at hl 0 rfl) ?_
          refine gf_X4_147 C0 hP 0 wdM_0 rfl dX4_reading_62 ?_
          refine lv_iload_n hx hb dX4_reading_65 rfl (lv_at hl 2 rfl) ?_
          obtain ⟨h13, hf⟩ := zq_in_s hf
          obtain ⟨g14, eg14, hf⟩ := zq_lt_s hf
          refine zis (ws' := (wdM ad cy g14 u)) C0 hP hD hS 15 wdM_15 h13 (by rw [eg14]; rfl) dX4_reading_66 (fun H locs hP hD hS => ?_)
          refine lv_aload_n hx hb dX4_reading_67 rfl (lv_at hl 0 rfl) ?_
          refine gf_X4_55 C0 hP 0 wdM_0 rfl dX4_reading_68 ?_
          refine lv_aload_n hx hb dX4_reading_71 rfl (lv_at hl 0 rfl) ?_
          refine gf_X4_147 C0 hP 0 wdM_0 rfl dX4_reading_72 ?_
          refine lv_iload_n hx hb dX4_reading_75 rfl (lv_at hl 3 rfl) ?_
          obtain ⟨h15, hf⟩ := zq_in_s hf
          obtain ⟨g16, eg16, hf⟩ := zq_lt_s hf
          refine zis (ws' := (wdM ad cy g16 u)) C0 hP hD hS 16 wdM_16 h15 (by rw [eg16]; rfl) dX4_reading_76 (fun H locs hP hD hS => ?_)
          refine lv_aload_n hx hb dX4_reading_77 rfl (lv_at hl 0 rfl) ?_
          refine lv_dup hx hb dX4_reading_78 rfl ?_
          refine gf_X4_147 C0 hP 0 wdM_0 rfl dX4_reading_79 ?_
          refine lv_iconst (v := 1) hx hb dX4_reading_82 (by decide) ?_
          refine lv_iadd hx hb dX4_reading_83 ?_
          obtain ⟨g17, eg17, hf⟩ := zq_lt_s hf
          refine pf_X4_147 (ws' := (wdM ad cy g17 u)) C0 hP hD hS 0 wdM_0 (Nat.le_of_ble_eq_true rfl) (by rw [eg17]; rfl) dX4_reading_84 (fun H locs hP hD hS => ?_)
          refine lv_aload_n hx hb dX4_reading_87 rfl (lv_at hl 0 rfl) ?_
          refine gf_X4_147 C0 hP 0 wdM_0 rfl dX4_reading_88 ?_
          refine lv_iconst (v := 1) hx hb dX4_reading_91 (by decide) ?_
          refine lv_isub hx hb dX4_reading_92 ?_
          obtain ⟨rfl, rfl⟩ := zq_j2 hf
          exact hret _ _ _ _ rfl dX4_reading_93 hP hD hS
        · have hf := it_t c10 hf
          refine lv_bipush (v := (-4)) hx hb dX4_reading_44 (by decide) ?_
          obtain ⟨rfl, rfl⟩ := zq_j2 hf
          exact hret _ _ _ _ rfl dX4_reading_46 hP hD hS
      · have hf := it_t c9 hf
        refine lv_bipush (v := (-2)) hx hb dX4_reading_32 (by decide) ?_
        obtain ⟨rfl, rfl⟩ := zq_j2 hf
        exact hret _ _ _ _ rfl dX4_reading_34 hP hD hS
  · have hf := it_f c3 hf
    refine lv_iconst (v := (-1)) hx hb dX4_reading_8 (by decide) ?_
    obtain ⟨rfl, rfl⟩ := zq_j2 hf
    exact hret _ _ _ _ rfl dX4_reading_9 hP hD hS

def f_X4_back (g : zS) (x1 : Int32) : Option (Int32 × zS) :=
  zq_b1 (f_X4_in (Int32.toInt64 x1) 0 (Int32.toInt64 (g 21 0))) (fun r2 =>
  if r2 = 0 then (
  some ((-2), g)) else (
  zq_lt (va_up g 21 (fun _ => ((g 21 0) - x1))) (fun g4 =>
  some ((g4 21 0), g4))))
set_option maxHeartbeats 4000000 in
set_option maxRecDepth 100000 in
theorem c_X4_back {l : Launch} {D : va_G} {ad : Nat → Nat} {cy : Nat → ClassId} {g : zS} {u : zJ} {x1 : Int32} {r0 : Int32} {g' : zS} (hf : f_X4_back g x1 = some (r0, g')) : zMI l yX4_back (zW yX4_back cX4_back 2 (some .int)) { frames := 1, cells := 0, slots := 0, locals := 25 } D cy [.ref (ad 0), .int x1] (wdM ad cy g u) r0 (wdM ad cy g' u) := by
  unfold f_X4_back at hf
  refine zEI (ty := .int) (by decide) (Nat.le_of_ble_eq_true rfl) ?_
  intro p e s9 m9 below meth c A Q C0 hret ls hl hP hD
  have hl : lv_has ls 2 [(0, .ref (ad 0)), (1, .int x1)] := hl
  have hS : va_S A s9.heap s9.heap [] := va_S.rf
  obtain ⟨hx, hb, hml, hown, hts⟩ := id C0.1
  refine lv_iload_n hx hb dX4_back_0 rfl (lv_at hl 1 rfl) ?_
  refine lv_i2l hx hb dX4_back_1 rfl ?_
  refine lv_lconst (v := 0) hx hb dX4_back_2 (by decide) ?_
  refine lv_aload_n hx hb dX4_back_3 rfl (lv_at hl 0 rfl) ?_
  refine gf_X4_147 C0 hP 0 wdM_0 rfl dX4_back_4 ?_
  refine lv_i2l hx hb dX4_back_7 rfl ?_
  obtain ⟨r2, hc1, hf⟩ := zq_b1_s hf
  refine zSI (ws' := (wdM ad cy g u)) (rest := []) C0 (fun _ h => h) zF.nil (c_X4_in hc1) hP hD hS my_X4_in kl_X4_87 ⟨rfl, rfl⟩ ⟨Nat.le_of_ble_eq_true rfl, Nat.le_of_ble_eq_true rfl⟩ rfl hl.1 rfl (Nat.le_of_ble_eq_true rfl) dX4_back_8 ⟨Nat.zero_le _, Nat.zero_le _⟩ (fun H locs hP hD hS => ?_)
  refine lv_if_ne (tgt := 17) hx hb dX4_back_11 (by decide) (fun c3 => ?_) (fun c3 => ?_)
  · have hf := it_f c3 hf
    refine lv_aload_n hx hb dX4_back_17 rfl (lv_at hl 0 rfl) ?_
    refine lv_dup hx hb dX4_back_18 rfl ?_
    refine gf_X4_147 C0 hP 0 wdM_0 rfl dX4_back_19 ?_
    refine lv_iload_n hx hb dX4_back_22 rfl (lv_at hl 1 rfl) ?_
    refine lv_isub hx hb dX4_back_23 ?_
    obtain ⟨g4, eg4, hf⟩ := zq_lt_s hf
    refine pf_X4_147 (ws' := (wdM ad cy g4 u)) C0 hP hD hS 0 wdM_0 (Nat.le_of_ble_eq_true rfl) (by rw [eg4]; rfl) dX4_back_24 (fun H locs hP hD hS => ?_)
    refine lv_aload_n hx hb dX4_back_27 rfl (lv_at hl 0 rfl) ?_
    refine gf_X4_147 C0 hP 0 wdM_0 rfl dX4_back_28 ?_
    obtain ⟨rfl, rfl⟩ := zq_j2 hf
    exact hret _ _ _ _ rfl dX4_back_31 hP hD hS
  · have hf := it_t c3 hf
    refine lv_bipush (v := (-2)) hx hb dX4_back_14 (by decide) ?_
    obtain ⟨rfl, rfl⟩ := zq_j2 hf
    exact hret _ _ _ _ rfl dX4_back_16 hP hD hS

def f_X4_areSo_L8 (g : zS) : Nat → Int32 → Int32 → Option (Int32)
  | 0, _, _ => none
  | q9 + 1, x1, x2 =>
  if (g 21 0) ≤ x2 then (
  some x1) else (
  if x1 = 0 then (
  f_X4_areSo_L8 g q9 0 (x2 + 1)) else (
  zq_rd (g 23) 8 x2 (fun v5 =>
  zq_b1 (f_X4_light g v5) (fun r8 =>
  zq_rd (g 22) 8 x2 (fun v9 =>
  zq_rd (g 17) 15 v9 (fun v11 =>
  zq_rd (g 24) 8 x2 (fun v13 =>
  if ((r8 >>> (v11 &&& 31)) &&& 1) = v13 then (
  f_X4_areSo_L8 g q9 1 (x2 + 1)) else (
  f_X4_areSo_L8 g q9 0 (x2 + 1)))))))))
def f_X4_areSo (g : zS)  : Option (Int32 × zS) :=
  zq_b1 (f_X4_frames g) (fun g2 =>
  zq_b1 (f_X4_areSo_L8 g2 100 1 0) (fun y17 =>
  zq_z y17 (some (y17, g2))))
set_option maxHeartbeats 4000000 in
set_option maxRecDepth 100000 in
theorem w_X4_areSo_L8 {l : Launch} {p : Program} {e : Env} {s9 : State} {m9 : MethodId} {ag : Array Value} {below : List Frame} {meth : Method} {c : Code} {A : Nat → Prop} {Q : State → Prop} {D : va_G} {ad : Nat → Nat} {cy : Nat → ClassId} {g : zS} {u : zJ} (C0 : zCx p s9 m9 ag c cX4_areSo 3 RX4 D cy A)  {o1 : Int32} (e0 : ∀ (H : Heap) (locs : List Loc) (ls : Array Slot), va_P D vwCl (wdM ad cy g u) H → va_D A (wdM ad cy g u) → va_S A s9.heap H locs → lv_has ls 3 [(1, .int o1)] → W p l e { frames := 2, cells := 0, slots := 0, locals := 43 } s9 m9 ag below meth c H locs 0 0 Q (F0 m9 65 ls [])) : ∀ (q9 : Nat) (x1 : Int32) (x2 : Int32), f_X4_areSo_L8 g q9 x1 x2 = some o1 → ∀ (H : Heap) (locs : List Loc) (ls : Array Slot), va_P D vwCl (wdM ad cy g u) H → va_D A (wdM ad cy g u) → va_S A s9.heap H locs → lv_has ls 3 [(0, .ref (ad 0)), (1, .int x1), (2, .int x2)] → W p l e { frames := 2, cells := 0, slots := 0, locals := 43 } s9 m9 ag below meth c H locs 0 0 Q (F0 m9 8 ls []) := by
  obtain ⟨hx, hb, hml, hown, hts⟩ := id C0.1
  intro q9
  induction q9 with
  | zero =>
    intro x1 x2 hf
    rw [f_X4_areSo_L8] at hf
    cases hf
  | succ q9 ih =>
    intro x1 x2 hf H locs ls hP hD hS hl
    rw [f_X4_areSo_L8] at hf
    refine lv_iload_n hx hb dX4_areSo_8 rfl (lv_at hl 2 rfl) ?_
    refine lv_aload_n hx hb dX4_areSo_9 rfl (lv_at hl 0 rfl) ?_
    refine gf_X4_147 C0 hP 0 wdM_0 rfl dX4_areSo_10 ?_
    refine lv_icmp_ge (tgt := 65) hx hb dX4_areSo_13 (by decide) (fun c3 => ?_) (fun c3 => ?_)
    · have hf := it_t c3 hf
      obtain rfl := Option.some.inj hf
      exact e0 _ _ _ hP hD hS (lv_sub hl [1] rfl)
    · have hf := it_f c3 hf
      refine lv_iload_n hx hb dX4_areSo_16 rfl (lv_at hl 1 rfl) ?_
      refine lv_if_eq (tgt := 57) hx hb dX4_areSo_17 (by decide) (fun c4 => ?_) (fun c4 => ?_)
      · have hf := it_t c4 hf
        refine lv_iconst (v := 0) hx hb dX4_areSo_57 (by decide) ?_
        refine lv_istore_n (lv' := [(1, .int 0), (0, .ref (ad 0)), (2, .int x2)]) hx hb dX4_areSo_58 rfl hl (by decide) rfl (fun ls hl => ?_)
        refine lv_iinc (v := (x2 + 1)) (lv' := [(2, .int (x2 + 1)), (1, .int 0), (0, .ref (ad 0))]) hx hb dX4_areSo_59 hl (k := 2) rfl rfl (by decide) rfl (fun ls hl => ?_)
        refine lv_goto (tgt := 8) hx hb dX4_areSo_62 (by decide) ?_
        exact ih 0 (x2 + 1) hf _ _ _ hP hD hS (lv_sub hl [2, 1, 0] rfl)
      · have hf := it_f c4 hf
        refine lv_aload_n hx hb dX4_areSo_20 rfl (lv_at hl 0 rfl) ?_
        refine lv_aload_n hx hb dX4_areSo_21 rfl (lv_at hl 0 rfl) ?_
        refine gf_X4_52 C0 hP 0 wdM_0 rfl dX4_areSo_22 ?_
        refine lv_iload_n hx hb dX4_areSo_25 rfl (lv_at hl 2 rfl) ?_
        obtain ⟨v5, ev5, h6, hf⟩ := zq_rd_s hf
        refine zia C0 hP 15 wdM_15 ev5 h6 dX4_areSo_26 ?_
        obtain ⟨r8, hc7, hf⟩ := zq_b1_s hf
        refine zVI (ws' := (wdM ad cy g u)) (rest := []) C0 (fun _ h => h) zF.id (c_X4_light hc7) hP hD hS my_X4_light kl_X4_153 ⟨rfl, rfl⟩ ⟨Nat.le_of_ble_eq_true rfl, Nat.le_of_ble_eq_true rfl⟩ (q0 := 0) (ci := 4) rfl wdM_0 rfl hl.1 rfl (Nat.le_of_ble_eq_true rfl) dX4_areSo_27 ⟨Nat.zero_le _, Nat.zero_le _⟩ (fun H locs hP hD hS => ?_)
        refine lv_aload_n hx hb dX4_areSo_30 rfl (lv_at hl 0 rfl) ?_
        refine gf_X4_37 C0 hP 0 wdM_0 rfl dX4_areSo_31 ?_
        refine lv_aload_n hx hb dX4_areSo_34 rfl (lv_at hl 0 rfl) ?_
        refine gf_X4_49 C0 hP 0 wdM_0 rfl dX4_areSo_35 ?_
        refine lv_iload_n hx hb dX4_areSo_38 rfl (lv_at hl 2 rfl) ?_
        obtain ⟨v9, ev9, h10, hf⟩ := zq_rd_s hf
        refine zia C0 hP 14 wdM_14 ev9 h10 dX4_areSo_39 ?_
        obtain ⟨v11, ev11, h12, hf⟩ := zq_rd_s hf
        refine zia C0 hP 10 wdM_10 ev11 h12 dX4_areSo_40 ?_
        refine lv_ishr hx hb dX4_areSo_41 ?_
        refine lv_iconst (v := 1) hx hb dX4_areSo_42 (by decide) ?_
        refine lv_iand hx hb dX4_areSo_43 ?_
        refine lv_aload_n hx hb dX4_areSo_44 rfl (lv_at hl 0 rfl) ?_
        refine gf_X4_55 C0 hP 0 wdM_0 rfl dX4_areSo_45 ?_
        refine lv_iload_n hx hb dX4_areSo_48 rfl (lv_at hl 2 rfl) ?_
        obtain ⟨v13, ev13, h14, hf⟩ := zq_rd_s hf
        refine zia C0 hP 16 wdM_16 ev13 h14 dX4_areSo_49 ?_
        refine lv_icmp_ne (tgt := 57) hx hb dX4_areSo_50 (by decide) (fun c15 => ?_) (fun c15 => ?_)
        · have hf := it_f c15 hf
          refine lv_iconst (v := 0) hx hb dX4_areSo_57 (by decide) ?_
          refine lv_istore_n (lv' := [(1, .int 0), (0, .ref (ad 0)), (2, .int x2)]) hx hb dX4_areSo_58 rfl hl (by decide) rfl (fun ls hl => ?_)
          refine lv_iinc (v := (x2 + 1)) (lv' := [(2, .int (x2 + 1)), (1, .int 0), (0, .ref (ad 0))]) hx hb dX4_areSo_59 hl (k := 2) rfl rfl (by decide) rfl (fun ls hl => ?_)
          refine lv_goto (tgt := 8) hx hb dX4_areSo_62 (by decide) ?_
          exact ih 0 (x2 + 1) hf _ _ _ hP hD hS (lv_sub hl [2, 1, 0] rfl)
        · have hf := it_t c15 hf
          refine lv_iconst (v := 1) hx hb dX4_areSo_53 (by decide) ?_
          refine lv_goto (tgt := 58) hx hb dX4_areSo_54 (by decide) ?_
          refine lv_istore_n (lv' := [(1, .int 1), (0, .ref (ad 0)), (2, .int x2)]) hx hb dX4_areSo_58 rfl hl (by decide) rfl (fun ls hl => ?_)
          refine lv_iinc (v := (x2 + 1)) (lv' := [(2, .int (x2 + 1)), (1, .int 1), (0, .ref (ad 0))]) hx hb dX4_areSo_59 hl (k := 2) rfl rfl (by decide) rfl (fun ls hl => ?_)
          refine lv_goto (tgt := 8) hx hb dX4_areSo_62 (by decide) ?_
          exact ih 1 (x2 + 1) hf _ _ _ hP hD hS (lv_sub hl [2, 1, 0] rfl)
set_option maxHeartbeats 4000000 in
set_option maxRecDepth 100000 in
theorem c_X4_areSo {l : Launch} {D : va_G} {ad : Nat → Nat} {cy : Nat → ClassId} {g : zS} {u : zJ}  {r0 : Int32} {g' : zS} (hf : f_X4_areSo g = some (r0, g')) : zMI l yX4_areSo (zW yX4_areSo cX4_areSo 3 (some .boolean)) { frames := 2, cells := 0, slots := 0, locals := 43 } D cy [.ref (ad 0)] (wdM ad cy g u) r0 (wdM ad cy g' u) := by
  unfold f_X4_areSo at hf
  refine zEI (ty := .boolean) (by decide) (Nat.le_of_ble_eq_true rfl) ?_
  intro p e s9 m9 below meth c A Q C0 hret ls hl hP hD
  have hl : lv_has ls 3 [(0, .ref (ad 0))] := hl
  have hS : va_S A s9.heap s9.heap [] := va_S.rf
  obtain ⟨hx, hb, hml, hown, hts⟩ := id C0.1
  refine lv_aload_n hx hb dX4_areSo_0 rfl (lv_at hl 0 rfl) ?_
  obtain ⟨g2, hc1, hf⟩ := zq_b1_s hf
  refine zVV (ws' := (wdM ad cy g2 u)) (rest := []) C0 (fun _ h => h) zF.id (c_X4_frames hc1) hP hD hS my_X4_frames kl_X4_162 ⟨rfl, rfl⟩ ⟨Nat.le_of_ble_eq_true rfl, Nat.le_of_ble_eq_true rfl⟩ (q0 := 0) (ci := 4) rfl wdM_0 rfl hl.1 rfl (Nat.le_of_ble_eq_true rfl) dX4_areSo_1 ⟨Nat.zero_le _, Nat.zero_le _⟩ (fun H locs hP hD hS => ?_)
  refine lv_iconst (v := 1) hx hb dX4_areSo_4 (by decide) ?_
  refine lv_istore_n (lv' := [(1, .int 1), (0, .ref (ad 0))]) hx hb dX4_areSo_5 rfl hl (by decide) rfl (fun ls hl => ?_)
  refine lv_iconst (v := 0) hx hb dX4_areSo_6 (by decide) ?_
  refine lv_istore_n (lv' := [(2, .int 0), (1, .int 1), (0, .ref (ad 0))]) hx hb dX4_areSo_7 rfl hl (by decide) rfl (fun ls hl => ?_)
  obtain ⟨y17, hL16, hf⟩ := zq_b1_s hf
  refine w_X4_areSo_L8 C0 (fun H locs ls hP hD hS hl => ?_) 100 1 0 hL16 _ _ _ hP hD hS (lv_sub hl [2, 1, 0] rfl)
  refine lv_iload_n hx hb dX4_areSo_65 rfl (lv_at hl 0 rfl) ?_
  obtain ⟨h18, hf⟩ := zq_z_s hf
  obtain ⟨rfl, rfl⟩ := zq_j2 hf
  exact hret _ _ _ _ (zq_nz h18) dX4_areSo_66 hP hD hS

def f_X4_kinds_L22 (x1 : Int32) : Nat → Int32 → Int32 → zS → Option (Int32 × zS)
  | 0, _, _, _ => none
  | q9 + 1, x3, x4, g =>
  if 3 ≤ x4 then (
  some (x3, g)) else (
  zq_in 4 x1 (zq_lt (va_up g 4 (upd (g 4) (Int32.toNatClampNeg x1) x4)) (fun g8 =>
  zq_b2 (f_X4_areSo g8) (fun r10 g11 =>
  if r10 = 0 then (
  f_X4_kinds_L22 x1 q9 (x3 ||| 0) (x4 + 1) g11) else (
  f_X4_kinds_L22 x1 q9 (x3 ||| (1 <<< (x4 &&& 31))) (x4 + 1) g11)))))
def f_X4_kinds (g : zS) (x1 : Int32) : Option (Int32 × zS) :=
  zq_b1 (f_X4_noModule g x1) (fun r2 =>
  if r2 = 0 then (
  zq_rd (g 4) 4 x1 (fun v4 =>
  zq_b2 (f_X4_kinds_L22 x1 100 0 0 g) (fun y14 g15 =>
  zq_in 4 x1 (zq_lt (va_up g15 4 (upd (g15 4) (Int32.toNatClampNeg x1) v4)) (fun g17 =>
  some (y14, g17)))))) else (
  some ((-1), g)))
set_option maxHeartbeats 4000000 in
set_option maxRecDepth 100000 in
theorem w_X4_kinds_L22 {l : Launch} {p : Program} {e : Env} {s9 : State} {m9 : MethodId} {ag : Array Value} {below : List Frame} {meth : Method} {c : Code} {A : Nat → Prop} {Q : State → Prop} {D : va_G} {ad : Nat → Nat} {cy : Nat → ClassId} {u : zJ} {x1 : Int32} {x2 : Int32} (C0 : zCx p s9 m9 ag c cX4_kinds 5 RX4 D cy A)  {o3 : Int32} {go : zS} (e0 : ∀ (H : Heap) (locs : List Loc) (ls : Array Slot), va_P D vwCl (wdM ad cy go u) H → va_D A (wdM ad cy go u) → va_S A s9.heap H locs → lv_has ls 5 [(0, .ref (ad 0)), (1, .int x1), (2, .int x2), (3, .int o3)] → W p l e { frames := 3, cells := 0, slots := 0, locals := 65 } s9 m9 ag below meth c H locs 0 0 Q (F0 m9 60 ls [])) : ∀ (q9 : Nat) (x3 : Int32) (x4 : Int32) (g : zS), f_X4_kinds_L22 x1 q9 x3 x4 g = some (o3, go) → ∀ (H : Heap) (locs : List Loc) (ls : Array Slot), va_P D vwCl (wdM ad cy g u) H → va_D A (wdM ad cy g u) → va_S A s9.heap H locs → lv_has ls 5 [(0, .ref (ad 0)), (1, .int x1), (2, .int x2), (3, .int x3), (4, .int x4)] → W p l e { frames := 3, cells := 0, slots := 0, locals := 65 } s9 m9 ag below meth c H locs 0 0 Q (F0 m9 22 ls []) := by
  obtain ⟨hx, hb, hml, hown, hts⟩ := id C0.1
  intro q9
  induction q9 with
  | zero =>
    intro x3 x4 g hf
    rw [f_X4_kinds_L22] at hf
    cases hf
  | succ q9 ih =>
    intro x3 x4 g hf H locs ls hP hD hS hl
    rw [f_X4_kinds_L22] at hf
    refine lv_iload hx hb dX4_kinds_22 (lv_at hl 4 rfl) ?_
    refine lv_iconst (v := 3) hx hb dX4_kinds_24 (by decide) ?_
    refine lv_icmp_ge (tgt := 60) hx hb dX4_kinds_25 (by decide) (fun c6 => ?_) (fun c6 => ?_)
    · have hf := it_t c6 hf
      obtain ⟨rfl, rfl⟩ := zq_j2 hf
      exact e0 _ _ _ hP hD hS (lv_sub hl [0, 1, 2, 3] rfl)
    · have hf := it_f c6 hf
      refine lv_aload_n hx hb dX4_kinds_28 rfl (lv_at hl 0 rfl) ?_
      refine gf_X4_7 C0 hP 0 wdM_0 rfl dX4_kinds_29 ?_
      refine lv_iload_n hx hb dX4_kinds_32 rfl (lv_at hl 1 rfl) ?_
      refine lv_iload hx hb dX4_kinds_33 (lv_at hl 4 rfl) ?_
      obtain ⟨h7, hf⟩ := zq_in_s hf
      obtain ⟨g8, eg8, hf⟩ := zq_lt_s hf
      refine zis (ws' := (wdM ad cy g8 u)) C0 hP hD hS 1 wdM_1 h7 (by rw [eg8]; rfl) dX4_kinds_35 (fun H locs hP hD hS => ?_)
      refine lv_iload_n hx hb dX4_kinds_36 rfl (lv_at hl 3 rfl) ?_
      refine lv_aload_n hx hb dX4_kinds_37 rfl (lv_at hl 0 rfl) ?_
      obtain ⟨r10, g11, hc9, hf⟩ := zq_b2_s hf
      refine zVI (ws' := (wdM ad cy g11 u)) (rest := [.int x3]) C0 (fun _ h => h) zF.id (c_X4_areSo hc9) hP hD hS my_X4_areSo kl_X4_254 ⟨rfl, rfl⟩ ⟨Nat.le_of_ble_eq_true rfl, Nat.le_of_ble_eq_true rfl⟩ (q0 := 0) (ci := 4) rfl wdM_0 rfl hl.1 rfl (Nat.le_of_ble_eq_true rfl) dX4_kinds_38 ⟨Nat.zero_le _, Nat.zero_le _⟩ (fun H locs hP hD hS => ?_)
      refine lv_if_eq (tgt := 51) hx hb dX4_kinds_41 (by decide) (fun c12 => ?_) (fun c12 => ?_)
      · have hf := it_t c12 hf
        refine lv_iconst (v := 0) hx hb dX4_kinds_51 (by decide) ?_
        refine lv_ior hx hb dX4_kinds_52 ?_
        refine lv_istore_n (lv' := [(3, .int (x3 ||| 0)), (0, .ref (ad 0)), (1, .int x1), (2, .int x2), (4, .int x4)]) hx hb dX4_kinds_53 rfl hl (by decide) rfl (fun ls hl => ?_)
        refine lv_iinc (v := (x4 + 1)) (lv' := [(4, .int (x4 + 1)), (3, .int (x3 ||| 0)), (0, .ref (ad 0)), (1, .int x1), (2, .int x2)]) hx hb dX4_kinds_54 hl (k := 4) rfl rfl (by decide) rfl (fun ls hl => ?_)
        refine lv_goto (tgt := 22) hx hb dX4_kinds_57 (by decide) ?_
        exact ih (x3 ||| 0) (x4 + 1) g11 hf _ _ _ hP hD hS (lv_sub hl [2, 3, 4, 1, 0] rfl)
      · have hf := it_f c12 hf
        refine lv_iconst (v := 1) hx hb dX4_kinds_44 (by decide) ?_
        refine lv_iload hx hb dX4_kinds_45 (lv_at hl 4 rfl) ?_
        refine lv_ishl hx hb dX4_kinds_47 ?_
        refine lv_goto (tgt := 52) hx hb dX4_kinds_48 (by decide) ?_
        refine lv_ior hx hb dX4_kinds_52 ?_
        refine lv_istore_n (lv' := [(3, .int (x3 ||| (1 <<< (x4 &&& 31)))), (0, .ref (ad 0)), (1, .int x1), (2, .int x2), (4, .int x4)]) hx hb dX4_kinds_53 rfl hl (by decide) rfl (fun ls hl => ?_)
        refine lv_iinc (v := (x4 + 1)) (lv' := [(4, .int (x4 + 1)), (3, .int (x3 ||| (1 <<< (x4 &&& 31)))), (0, .ref (ad 0)), (1, .int x1), (2, .int x2)]) hx hb dX4_kinds_54 hl (k := 4) rfl rfl (by decide) rfl (fun ls hl => ?_)
        refine lv_goto (tgt := 22) hx hb dX4_kinds_57 (by decide) ?_
        exact ih (x3 ||| (1 <<< (x4 &&& 31))) (x4 + 1) g11 hf _ _ _ hP hD hS (lv_sub hl [2, 3, 4, 1, 0] rfl)
set_option maxHeartbeats 4000000 in
set_option maxRecDepth 100000 in
theorem c_X4_kinds {l : Launch} {D : va_G} {ad : Nat → Nat} {cy : Nat → ClassId} {g : zS} {u : zJ} {x1 : Int32} {r0 : Int32} {g' : zS} (hf : f_X4_kinds g x1 = some (r0, g')) : zMI l yX4_kinds (zW yX4_kinds cX4_kinds 5 (some .int)) { frames := 3, cells := 0, slots := 0, locals := 65 } D cy [.ref (ad 0), .int x1] (wdM ad cy g u) r0 (wdM ad cy g' u) := by
  unfold f_X4_kinds at hf
  refine zEI (ty := .int) (by decide) (Nat.le_of_ble_eq_true rfl) ?_
  intro p e s9 m9 below meth c A Q C0 hret ls hl hP hD
  have hl : lv_has ls 5 [(0, .ref (ad 0)), (1, .int x1)] := hl
  have hS : va_S A s9.heap s9.heap [] := va_S.rf
  obtain ⟨hx, hb, hml, hown, hts⟩ := id C0.1
  refine lv_aload_n hx hb dX4_kinds_0 rfl (lv_at hl 0 rfl) ?_
  refine lv_iload_n hx hb dX4_kinds_1 rfl (lv_at hl 1 rfl) ?_
  obtain ⟨r2, hc1, hf⟩ := zq_b1_s hf
  refine zVI (ws' := (wdM ad cy g u)) (rest := []) C0 (fun _ h => h) zF.id (c_X4_noModule hc1) hP hD hS my_X4_noModule kl_X4_168 ⟨rfl, rfl⟩ ⟨Nat.le_of_ble_eq_true rfl, Nat.le_of_ble_eq_true rfl⟩ (q0 := 0) (ci := 4) rfl wdM_0 rfl hl.1 rfl (Nat.le_of_ble_eq_true rfl) dX4_kinds_2 ⟨Nat.zero_le _, Nat.zero_le _⟩ (fun H locs hP hD hS => ?_)
  refine lv_if_eq (tgt := 10) hx hb dX4_kinds_5 (by decide) (fun c3 => ?_) (fun c3 => ?_)
  · have hf := it_t c3 hf
    refine lv_aload_n hx hb dX4_kinds_10 rfl (lv_at hl 0 rfl) ?_
    refine gf_X4_7 C0 hP 0 wdM_0 rfl dX4_kinds_11 ?_
    refine lv_iload_n hx hb dX4_kinds_14 rfl (lv_at hl 1 rfl) ?_
    obtain ⟨v4, ev4, h5, hf⟩ := zq_rd_s hf
    refine zia C0 hP 1 wdM_1 ev4 h5 dX4_kinds_15 ?_
    refine lv_istore_n (lv' := [(2, .int v4), (0, .ref (ad 0)), (1, .int x1)]) hx hb dX4_kinds_16 rfl hl (by decide) rfl (fun ls hl => ?_)
    refine lv_iconst (v := 0) hx hb dX4_kinds_17 (by decide) ?_
    refine lv_istore_n (lv' := [(3, .int 0), (2, .int v4), (0, .ref (ad 0)), (1, .int x1)]) hx hb dX4_kinds_18 rfl hl (by decide) rfl (fun ls hl => ?_)
    refine lv_iconst (v := 0) hx hb dX4_kinds_19 (by decide) ?_
    refine lv_istore (lv' := [(4, .int 0), (3, .int 0), (2, .int v4), (0, .ref (ad 0)), (1, .int x1)]) hx hb dX4_kinds_20 hl (by decide) rfl (fun ls hl => ?_)
    obtain ⟨y14, g15, hL13, hf⟩ := zq_b2_s hf
    refine w_X4_kinds_L22 C0 (fun H locs ls hP hD hS hl => ?_) 100 0 0 g hL13 _ _ _ hP hD hS (lv_sub hl [3, 4, 2, 1, 0] rfl)
    refine lv_aload_n hx hb dX4_kinds_60 rfl (lv_at hl 0 rfl) ?_
    refine gf_X4_7 C0 hP 0 wdM_0 rfl dX4_kinds_61 ?_
    refine lv_iload_n hx hb dX4_kinds_64 rfl (lv_at hl 1 rfl) ?_
    refine lv_iload_n hx hb dX4_kinds_65 rfl (lv_at hl 2 rfl) ?_
    obtain ⟨h16, hf⟩ := zq_in_s hf
    obtain ⟨g17, eg17, hf⟩ := zq_lt_s hf
    refine zis (ws' := (wdM ad cy g17 u)) C0 hP hD hS 1 wdM_1 h16 (by rw [eg17]; rfl) dX4_kinds_66 (fun H locs hP hD hS => ?_)
    refine lv_iload_n hx hb dX4_kinds_67 rfl (lv_at hl 3 rfl) ?_
    obtain ⟨rfl, rfl⟩ := zq_j2 hf
    exact hret _ _ _ _ rfl dX4_kinds_68 hP hD hS
  · have hf := it_f c3 hf
    refine lv_iconst (v := (-1)) hx hb dX4_kinds_8 (by decide) ?_
    obtain ⟨rfl, rfl⟩ := zq_j2 hf
    exact hret _ _ _ _ rfl dX4_kinds_9 hP hD hS

def f_X4_levels_L22 (x1 : Int32) : Nat → Int32 → Int32 → zS → Option (Int32 × zS)
  | 0, _, _, _ => none
  | q9 + 1, x3, x4, g =>
  if 9 < x4 then (
  some (x3, g)) else (
  zq_in 16 x1 (zq_lt (va_up g 8 (upd (g 8) (Int32.toNatClampNeg x1) x4)) (fun g8 =>
  zq_b2 (f_X4_areSo g8) (fun r10 g11 =>
  if r10 = 0 then (
  f_X4_levels_L22 x1 q9 (x3 ||| 0) (x4 + 1) g11) else (
  f_X4_levels_L22 x1 q9 (x3 ||| (1 <<< (x4 &&& 31))) (x4 + 1) g11)))))
def f_X4_levels (g : zS) (x1 : Int32) : Option (Int32 × zS) :=
  zq_b1 (f_X4_noLamp g x1) (fun r2 =>
  if r2 = 0 then (
  zq_rd (g 8) 16 x1 (fun v4 =>
  zq_b2 (f_X4_levels_L22 x1 100 0 0 g) (fun y14 g15 =>
  zq_in 16 x1 (zq_lt (va_up g15 8 (upd (g15 8) (Int32.toNatClampNeg x1) v4)) (fun g17 =>
  some (y14, g17)))))) else (
  some ((-1), g)))
set_option maxHeartbeats 4000000 in
set_option maxRecDepth 100000 in
theorem w_X4_levels_L22 {l : Launch} {p : Program} {e : Env} {s9 : State} {m9 : MethodId} {ag : Array Value} {below : List Frame} {meth : Method} {c : Code} {A : Nat → Prop} {Q : State → Prop} {D : va_G} {ad : Nat → Nat} {cy : Nat → ClassId} {u : zJ} {x1 : Int32} {x2 : Int32} (C0 : zCx p s9 m9 ag c cX4_levels 5 RX4 D cy A)  {o3 : Int32} {go : zS} (e0 : ∀ (H : Heap) (locs : List Loc) (ls : Array Slot), va_P D vwCl (wdM ad cy go u) H → va_D A (wdM ad cy go u) → va_S A s9.heap H locs → lv_has ls 5 [(0, .ref (ad 0)), (1, .int x1), (2, .int x2), (3, .int o3)] → W p l e { frames := 3, cells := 0, slots := 0, locals := 65 } s9 m9 ag below meth c H locs 0 0 Q (F0 m9 61 ls [])) : ∀ (q9 : Nat) (x3 : Int32) (x4 : Int32) (g : zS), f_X4_levels_L22 x1 q9 x3 x4 g = some (o3, go) → ∀ (H : Heap) (locs : List Loc) (ls : Array Slot), va_P D vwCl (wdM ad cy g u) H → va_D A (wdM ad cy g u) → va_S A s9.heap H locs → lv_has ls 5 [(0, .ref (ad 0)), (1, .int x1), (2, .int x2), (3, .int x3), (4, .int x4)] → W p l e { frames := 3, cells := 0, slots := 0, locals := 65 } s9 m9 ag below meth c H locs 0 0 Q (F0 m9 22 ls []) := by
  obtain ⟨hx, hb, hml, hown, hts⟩ := id C0.1
  intro q9
  induction q9 with
  | zero =>
    intro x3 x4 g hf
    rw [f_X4_levels_L22] at hf
    cases hf
  | succ q9 ih =>
    intro x3 x4 g hf H locs ls hP hD hS hl
    rw [f_X4_levels_L22] at hf
    refine lv_iload hx hb dX4_levels_22 (lv_at hl 4 rfl) ?_
    refine lv_bipush (v := 9) hx hb dX4_levels_24 (by decide) ?_
    refine lv_icmp_gt (tgt := 61) hx hb dX4_levels_26 (by decide) (fun c6 => ?_) (fun c6 => ?_)
    · have hf := it_t c6 hf
      obtain ⟨rfl, rfl⟩ := zq_j2 hf
      exact e0 _ _ _ hP hD hS (lv_sub hl [0, 1, 2, 3] rfl)
    · have hf := it_f c6 hf
      refine lv_aload_n hx hb dX4_levels_29 rfl (lv_at hl 0 rfl) ?_
      refine gf_X4_22 C0 hP 0 wdM_0 rfl dX4_levels_30 ?_
      refine lv_iload_n hx hb dX4_levels_33 rfl (lv_at hl 1 rfl) ?_
      refine lv_iload hx hb dX4_levels_34 (lv_at hl 4 rfl) ?_
      obtain ⟨h7, hf⟩ := zq_in_s hf
      obtain ⟨g8, eg8, hf⟩ := zq_lt_s hf
      refine zis (ws' := (wdM ad cy g8 u)) C0 hP hD hS 5 wdM_5 h7 (by rw [eg8]; rfl) dX4_levels_36 (fun H locs hP hD hS => ?_)
      refine lv_iload_n hx hb dX4_levels_37 rfl (lv_at hl 3 rfl) ?_
      refine lv_aload_n hx hb dX4_levels_38 rfl (lv_at hl 0 rfl) ?_
      obtain ⟨r10, g11, hc9, hf⟩ := zq_b2_s hf
      refine zVI (ws' := (wdM ad cy g11 u)) (rest := [.int x3]) C0 (fun _ h => h) zF.id (c_X4_areSo hc9) hP hD hS my_X4_areSo kl_X4_254 ⟨rfl, rfl⟩ ⟨Nat.le_of_ble_eq_true rfl, Nat.le_of_ble_eq_true rfl⟩ (q0 := 0) (ci := 4) rfl wdM_0 rfl hl.1 rfl (Nat.le_of_ble_eq_true rfl) dX4_levels_39 ⟨Nat.zero_le _, Nat.zero_le _⟩ (fun H locs hP hD hS => ?_)
      refine lv_if_eq (tgt := 52) hx hb dX4_levels_42 (by decide) (fun c12 => ?_) (fun c12 => ?_)
      · have hf := it_t c12 hf
        refine lv_iconst (v := 0) hx hb dX4_levels_52 (by decide) ?_
        refine lv_ior hx hb dX4_levels_53 ?_
        refine lv_istore_n (lv' := [(3, .int (x3 ||| 0)), (0, .ref (ad 0)), (1, .int x1), (2, .int x2), (4, .int x4)]) hx hb dX4_levels_54 rfl hl (by decide) rfl (fun ls hl => ?_)
        refine lv_iinc (v := (x4 + 1)) (lv' := [(4, .int (x4 + 1)), (3, .int (x3 ||| 0)), (0, .ref (ad 0)), (1, .int x1), (2, .int x2)]) hx hb dX4_levels_55 hl (k := 4) rfl rfl (by decide) rfl (fun ls hl => ?_)
        refine lv_goto (tgt := 22) hx hb dX4_levels_58 (by decide) ?_
        exact ih (x3 ||| 0) (x4 + 1) g11 hf _ _ _ hP hD hS (lv_sub hl [2, 3, 4, 1, 0] rfl)
      · have hf := it_f c12 hf
        refine lv_iconst (v := 1) hx hb dX4_levels_45 (by decide) ?_
        refine lv_iload hx hb dX4_levels_46 (lv_at hl 4 rfl) ?_
        refine lv_ishl hx hb dX4_levels_48 ?_
        refine lv_goto (tgt := 53) hx hb dX4_levels_49 (by decide) ?_
        refine lv_ior hx hb dX4_levels_53 ?_
        refine lv_istore_n (lv' := [(3, .int (x3 ||| (1 <<< (x4 &&& 31)))), (0, .ref (ad 0)), (1, .int x1), (2, .int x2), (4, .int x4)]) hx hb dX4_levels_54 rfl hl (by decide) rfl (fun ls hl => ?_)
        refine lv_iinc (v := (x4 + 1)) (lv' := [(4, .int (x4 + 1)), (3, .int (x3 ||| (1 <<< (x4 &&& 31)))), (0, .ref (ad 0)), (1, .int x1), (2, .int x2)]) hx hb dX4_levels_55 hl (k := 4) rfl rfl (by decide) rfl (fun ls hl => ?_)
        refine lv_goto (tgt := 22) hx hb dX4_levels_58 (by decide) ?_
        exact ih (x3 ||| (1 <<< (x4 &&& 31))) (x4 + 1) g11 hf _ _ _ hP hD hS (lv_sub hl [2, 3, 4, 1, 0] rfl)
set_option maxHeartbeats 4000000 in
set_option maxRecDepth 100000 in
theorem c_X4_levels {l : Launch} {D : va_G} {ad : Nat → Nat} {cy : Nat → ClassId} {g : zS} {u : zJ} {x1 : Int32} {r0 : Int32} {g' : zS} (hf : f_X4_levels g x1 = some (r0, g')) : zMI l yX4_levels (zW yX4_levels cX4_levels 5 (some .int)) { frames := 3, cells := 0, slots := 0, locals := 65 } D cy [.ref (ad 0), .int x1] (wdM ad cy g u) r0 (wdM ad cy g' u) := by
  unfold f_X4_levels at hf
  refine zEI (ty := .int) (by decide) (Nat.le_of_ble_eq_true rfl) ?_
  intro p e s9 m9 below meth c A Q C0 hret ls hl hP hD
  have hl : lv_has ls 5 [(0, .ref (ad 0)), (1, .int x1)] := hl
  have hS : va_S A s9.heap s9.heap [] := va_S.rf
  obtain ⟨hx, hb, hml, hown, hts⟩ := id C0.1
  refine lv_aload_n hx hb dX4_levels_0 rfl (lv_at hl 0 rfl) ?_
  refine lv_iload_n hx hb dX4_levels_1 rfl (lv_at hl 1 rfl) ?_
  obtain ⟨r2, hc1, hf⟩ := zq_b1_s hf
  refine zVI (ws' := (wdM ad cy g u)) (rest := []) C0 (fun _ h => h) zF.id (c_X4_noLamp hc1) hP hD hS my_X4_noLamp kl_X4_171 ⟨rfl, rfl⟩ ⟨Nat.le_of_ble_eq_true rfl, Nat.le_of_ble_eq_true rfl⟩ (q0 := 0) (ci := 4) rfl wdM_0 rfl hl.1 rfl (Nat.le_of_ble_eq_true rfl) dX4_levels_2 ⟨Nat.zero_le _, Nat.zero_le _⟩ (fun H locs hP hD hS => ?_)
  refine lv_if_eq (tgt := 10) hx hb dX4_levels_5 (by decide) (fun c3 => ?_) (fun c3 => ?_)
  · have hf := it_t c3 hf
    refine lv_aload_n hx hb dX4_levels_10 rfl (lv_at hl 0 rfl) ?_
    refine gf_X4_22 C0 hP 0 wdM_0 rfl dX4_levels_11 ?_
    refine lv_iload_n hx hb dX4_levels_14 rfl (lv_at hl 1 rfl) ?_
    obtain ⟨v4, ev4, h5, hf⟩ := zq_rd_s hf
    refine zia C0 hP 5 wdM_5 ev4 h5 dX4_levels_15 ?_
    refine lv_istore_n (lv' := [(2, .int v4), (0, .ref (ad 0)), (1, .int x1)]) hx hb dX4_levels_16 rfl hl (by decide) rfl (fun ls hl => ?_)
    refine lv_iconst (v := 0) hx hb dX4_levels_17 (by decide) ?_
    refine lv_istore_n (lv' := [(3, .int 0), (2, .int v4), (0, .ref (ad 0)), (1, .int x1)]) hx hb dX4_levels_18 rfl hl (by decide) rfl (fun ls hl => ?_)
    refine lv_iconst (v := 0) hx hb dX4_levels_19 (by decide) ?_
    refine lv_istore (lv' := [(4, .int 0), (3, .int 0), (2, .int v4), (0, .ref (ad 0)), (1, .int x1)]) hx hb dX4_levels_20 hl (by decide) rfl (fun ls hl => ?_)
    obtain ⟨y14, g15, hL13, hf⟩ := zq_b2_s hf
    refine w_X4_levels_L22 C0 (fun H locs ls hP hD hS hl => ?_) 100 0 0 g hL13 _ _ _ hP hD hS (lv_sub hl [3, 4, 2, 1, 0] rfl)
    refine lv_aload_n hx hb dX4_levels_61 rfl (lv_at hl 0 rfl) ?_
    refine gf_X4_22 C0 hP 0 wdM_0 rfl dX4_levels_62 ?_
    refine lv_iload_n hx hb dX4_levels_65 rfl (lv_at hl 1 rfl) ?_
    refine lv_iload_n hx hb dX4_levels_66 rfl (lv_at hl 2 rfl) ?_
    obtain ⟨h16, hf⟩ := zq_in_s hf
    obtain ⟨g17, eg17, hf⟩ := zq_lt_s hf
    refine zis (ws' := (wdM ad cy g17 u)) C0 hP hD hS 5 wdM_5 h16 (by rw [eg17]; rfl) dX4_levels_67 (fun H locs hP hD hS => ?_)
    refine lv_iload_n hx hb dX4_levels_68 rfl (lv_at hl 3 rfl) ?_
    obtain ⟨rfl, rfl⟩ := zq_j2 hf
    exact hret _ _ _ _ rfl dX4_levels_69 hP hD hS
  · have hf := it_f c3 hf
    refine lv_iconst (v := (-1)) hx hb dX4_levels_8 (by decide) ?_
    obtain ⟨rfl, rfl⟩ := zq_j2 hf
    exact hret _ _ _ _ rfl dX4_levels_9 hP hD hS

def f_X4_cuts_L19  : Nat → Int32 → Int32 → zS → Option (Int32 × zS)
  | 0, _, _, _ => none
  | q9 + 1, x2, x3, g =>
  if 8 < x3 then (
  some (x2, g)) else (
  zq_lt (va_up g 3 (fun _ => x3)) (fun g3 =>
  zq_b2 (f_X4_areSo g3) (fun r5 g6 =>
  if r5 = 0 then (
  f_X4_cuts_L19 q9 (x2 ||| 0) (x3 + 1) g6) else (
  f_X4_cuts_L19 q9 (x2 ||| (1 <<< (x3 &&& 31))) (x3 + 1) g6))))
def f_X4_cuts (g : zS)  : Option (Int32 × zS) :=
  if (g 1 0) = 0 then (
  some ((-3), g)) else (
  zq_b2 (f_X4_cuts_L19 100 0 1 g) (fun y9 g10 =>
  zq_lt (va_up g10 3 (fun _ => (g 3 0))) (fun g11 =>
  some (y9, g11))))
set_option maxHeartbeats 4000000 in
set_option maxRecDepth 100000 in
theorem w_X4_cuts_L19 {l : Launch} {p : Program} {e : Env} {s9 : State} {m9 : MethodId} {ag : Array Value} {below : List Frame} {meth : Method} {c : Code} {A : Nat → Prop} {Q : State → Prop} {D : va_G} {ad : Nat → Nat} {cy : Nat → ClassId} {u : zJ} {x1 : Int32} (C0 : zCx p s9 m9 ag c cX4_cuts 4 RX4 D cy A)  {o2 : Int32} {go : zS} (e0 : ∀ (H : Heap) (locs : List Loc) (ls : Array Slot), va_P D vwCl (wdM ad cy go u) H → va_D A (wdM ad cy go u) → va_S A s9.heap H locs → lv_has ls 4 [(0, .ref (ad 0)), (1, .int x1), (2, .int o2)] → W p l e { frames := 3, cells := 0, slots := 0, locals := 65 } s9 m9 ag below meth c H locs 0 0 Q (F0 m9 53 ls [])) : ∀ (q9 : Nat) (x2 : Int32) (x3 : Int32) (g : zS), f_X4_cuts_L19 q9 x2 x3 g = some (o2, go) → ∀ (H : Heap) (locs : List Loc) (ls : Array Slot), va_P D vwCl (wdM ad cy g u) H → va_D A (wdM ad cy g u) → va_S A s9.heap H locs → lv_has ls 4 [(0, .ref (ad 0)), (1, .int x1), (2, .int x2), (3, .int x3)] → W p l e { frames := 3, cells := 0, slots := 0, locals := 65 } s9 m9 ag below meth c H locs 0 0 Q (F0 m9 19 ls []) := by
  obtain ⟨hx, hb, hml, hown, hts⟩ := id C0.1
  intro q9
  induction q9 with
  | zero =>
    intro x2 x3 g hf
    rw [f_X4_cuts_L19] at hf
    cases hf
  | succ q9 ih =>
    intro x2 x3 g hf H locs ls hP hD hS hl
    rw [f_X4_cuts_L19] at hf
    refine lv_iload_n hx hb dX4_cuts_19 rfl (lv_at hl 3 rfl) ?_
    refine lv_bipush (v := 8) hx hb dX4_cuts_20 (by decide) ?_
    refine lv_icmp_gt (tgt := 53) hx hb dX4_cuts_22 (by decide) (fun c2 => ?_) (fun c2 => ?_)
    · have hf := it_t c2 hf
      obtain ⟨rfl, rfl⟩ := zq_j2 hf
      exact e0 _ _ _ hP hD hS (lv_sub hl [0, 1, 2] rfl)
    · have hf := it_f c2 hf
      refine lv_aload_n hx hb dX4_cuts_25 rfl (lv_at hl 0 rfl) ?_
      refine lv_iload_n hx hb dX4_cuts_26 rfl (lv_at hl 3 rfl) ?_
      obtain ⟨g3, eg3, hf⟩ := zq_lt_s hf
      refine pf_X4_144 (ws' := (wdM ad cy g3 u)) C0 hP hD hS 0 wdM_0 (Nat.le_of_ble_eq_true rfl) (by rw [eg3]; rfl) dX4_cuts_27 (fun H locs hP hD hS => ?_)
      refine lv_iload_n hx hb dX4_cuts_30 rfl (lv_at hl 2 rfl) ?_
      refine lv_aload_n hx hb dX4_cuts_31 rfl (lv_at hl 0 rfl) ?_
      obtain ⟨r5, g6, hc4, hf⟩ := zq_b2_s hf
      refine zVI (ws' := (wdM ad cy g6 u)) (rest := [.int x2]) C0 (fun _ h => h) zF.id (c_X4_areSo hc4) hP hD hS my_X4_areSo kl_X4_254 ⟨rfl, rfl⟩ ⟨Nat.le_of_ble_eq_true rfl, Nat.le_of_ble_eq_true rfl⟩ (q0 := 0) (ci := 4) rfl wdM_0 rfl hl.1 rfl (Nat.le_of_ble_eq_true rfl) dX4_cuts_32 ⟨Nat.zero_le _, Nat.zero_le _⟩ (fun H locs hP hD hS => ?_)
      refine lv_if_eq (tgt := 44) hx hb dX4_cuts_35 (by decide) (fun c7 => ?_) (fun c7 => ?_)
      · have hf := it_t c7 hf
        refine lv_iconst (v := 0) hx hb dX4_cuts_44 (by decide) ?_
        refine lv_ior hx hb dX4_cuts_45 ?_
        refine lv_istore_n (lv' := [(2, .int (x2 ||| 0)), (0, .ref (ad 0)), (1, .int x1), (3, .int x3)]) hx hb dX4_cuts_46 rfl hl (by decide) rfl (fun ls hl => ?_)
        refine lv_iinc (v := (x3 + 1)) (lv' := [(3, .int (x3 + 1)), (2, .int (x2 ||| 0)), (0, .ref (ad 0)), (1, .int x1)]) hx hb dX4_cuts_47 hl (k := 3) rfl rfl (by decide) rfl (fun ls hl => ?_)
        refine lv_goto (tgt := 19) hx hb dX4_cuts_50 (by decide) ?_
        exact ih (x2 ||| 0) (x3 + 1) g6 hf _ _ _ hP hD hS (lv_sub hl [2, 3, 1, 0] rfl)
      · have hf := it_f c7 hf
        refine lv_iconst (v := 1) hx hb dX4_cuts_38 (by decide) ?_
        refine lv_iload_n hx hb dX4_cuts_39 rfl (lv_at hl 3 rfl) ?_
        refine lv_ishl hx hb dX4_cuts_40 ?_
        refine lv_goto (tgt := 45) hx hb dX4_cuts_41 (by decide) ?_
        refine lv_ior hx hb dX4_cuts_45 ?_
        refine lv_istore_n (lv' := [(2, .int (x2 ||| (1 <<< (x3 &&& 31)))), (0, .ref (ad 0)), (1, .int x1), (3, .int x3)]) hx hb dX4_cuts_46 rfl hl (by decide) rfl (fun ls hl => ?_)
        refine lv_iinc (v := (x3 + 1)) (lv' := [(3, .int (x3 + 1)), (2, .int (x2 ||| (1 <<< (x3 &&& 31)))), (0, .ref (ad 0)), (1, .int x1)]) hx hb dX4_cuts_47 hl (k := 3) rfl rfl (by decide) rfl (fun ls hl => ?_)
        refine lv_goto (tgt := 19) hx hb dX4_cuts_50 (by decide) ?_
        exact ih (x2 ||| (1 <<< (x3 &&& 31))) (x3 + 1) g6 hf _ _ _ hP hD hS (lv_sub hl [2, 3, 1, 0] rfl)
set_option maxHeartbeats 4000000 in
set_option maxRecDepth 100000 in
theorem c_X4_cuts {l : Launch} {D : va_G} {ad : Nat → Nat} {cy : Nat → ClassId} {g : zS} {u : zJ}  {r0 : Int32} {g' : zS} (hf : f_X4_cuts g = some (r0, g')) : zMI l yX4_cuts (zW yX4_cuts cX4_cuts 4 (some .int)) { frames := 3, cells := 0, slots := 0, locals := 65 } D cy [.ref (ad 0)] (wdM ad cy g u) r0 (wdM ad cy g' u) := by
  unfold f_X4_cuts at hf
  refine zEI (ty := .int) (by decide) (Nat.le_of_ble_eq_true rfl) ?_
  intro p e s9 m9 below meth c A Q C0 hret ls hl hP hD
  have hl : lv_has ls 4 [(0, .ref (ad 0))] := hl
  have hS : va_S A s9.heap s9.heap [] := va_S.rf
  obtain ⟨hx, hb, hml, hown, hts⟩ := id C0.1
  refine lv_aload_n hx hb dX4_cuts_0 rfl (lv_at hl 0 rfl) ?_
  refine gf_X4_84 C0 hP 0 wdM_0 rfl dX4_cuts_1 ?_
  refine lv_if_ne (tgt := 10) hx hb dX4_cuts_4 (by decide) (fun c1 => ?_) (fun c1 => ?_)
  · have hf := it_f c1 hf
    refine lv_aload_n hx hb dX4_cuts_10 rfl (lv_at hl 0 rfl) ?_
    refine gf_X4_144 C0 hP 0 wdM_0 rfl dX4_cuts_11 ?_
    refine lv_istore_n (lv' := [(1, .int (g 3 0)), (0, .ref (ad 0))]) hx hb dX4_cuts_14 rfl hl (by decide) rfl (fun ls hl => ?_)
    refine lv_iconst (v := 0) hx hb dX4_cuts_15 (by decide) ?_
    refine lv_istore_n (lv' := [(2, .int 0), (1, .int (g 3 0)), (0, .ref (ad 0))]) hx hb dX4_cuts_16 rfl hl (by decide) rfl (fun ls hl => ?_)
    refine lv_iconst (v := 1) hx hb dX4_cuts_17 (by decide) ?_
    refine lv_istore_n (lv' := [(3, .int 1), (2, .int 0), (1, .int (g 3 0)), (0, .ref (ad 0))]) hx hb dX4_cuts_18 rfl hl (by decide) rfl (fun ls hl => ?_)
    obtain ⟨y9, g10, hL8, hf⟩ := zq_b2_s hf
    refine w_X4_cuts_L19 C0 (fun H locs ls hP hD hS hl => ?_) 100 0 1 g hL8 _ _ _ hP hD hS (lv_sub hl [3, 2, 1, 0] rfl)
    refine lv_aload_n hx hb dX4_cuts_53 rfl (lv_at hl 0 rfl) ?_
    refine lv_iload_n hx hb dX4_cuts_54 rfl (lv_at hl 1 rfl) ?_
    obtain ⟨g11, eg11, hf⟩ := zq_lt_s hf
    refine pf_X4_144 (ws' := (wdM ad cy g11 u)) C0 hP hD hS 0 wdM_0 (Nat.le_of_ble_eq_true rfl) (by rw [eg11]; rfl) dX4_cuts_55 (fun H locs hP hD hS => ?_)
    refine lv_iload_n hx hb dX4_cuts_58 rfl (lv_at hl 2 rfl) ?_
    obtain ⟨rfl, rfl⟩ := zq_j2 hf
    exact hret _ _ _ _ rfl dX4_cuts_59 hP hD hS
  · have hf := it_t c1 hf
    refine lv_bipush (v := (-3)) hx hb dX4_cuts_7 (by decide) ?_
    obtain ⟨rfl, rfl⟩ := zq_j2 hf
    exact hret _ _ _ _ rfl dX4_cuts_9 hP hD hS

def f_X4_addsLamp_L3 (x1 : Int32) : Nat → Int32 → zJ → Option (zJ)
  | 0, _, _ => none
  | q9 + 1, x2, u =>
  if x2 < 0 then (
  some u) else (
  if x2 ≤ 0 then (
  zq_rd u 17 x2 (fun v3 =>
  zq_in 17 x2 (zq_lt (vp_updL u (Int32.toNatClampNeg x2) ((v3 * (Int32.toInt64 (10 - x1))) + 0)) (fun u6 =>
  f_X4_addsLamp_L3 x1 q9 (x2 + (-1)) u6)))) else (
  zq_rd u 17 (x2 - 1) (fun v7 =>
  zq_rd u 17 x2 (fun v9 =>
  zq_in 17 x2 (zq_lt (vp_updL u (Int32.toNatClampNeg x2) ((v9 * (Int32.toInt64 (10 - x1))) + (v7 * (Int32.toInt64 x1)))) (fun u12 =>
  f_X4_addsLamp_L3 x1 q9 (x2 + (-1)) u12))))))
def f_X4_addsLamp (u : zJ) (x1 : Int32) : Option (zJ) :=
  zq_b1 (f_X4_addsLamp_L3 x1 100 16 u) (fun u14 =>
  some u14)
set_option maxHeartbeats 4000000 in
set_option maxRecDepth 100000 in
theorem w_X4_addsLamp_L3 {l : Launch} {p : Program} {e : Env} {s9 : State} {m9 : MethodId} {ag : Array Value} {below : List Frame} {meth : Method} {c : Code} {A : Nat → Prop} {Q : State → Prop} {D : va_G} {ad : Nat → Nat} {cy : Nat → ClassId} {g : zS} {x1 : Int32} (C0 : zCx p s9 m9 ag c cX4_addsLamp 5 RX4 D cy A)  {uo : zJ} (e0 : ∀ (H : Heap) (locs : List Loc) (ls : Array Slot), va_P D vwCl (wdM ad cy g uo) H → va_D A (wdM ad cy g uo) → va_S A s9.heap H locs → lv_has ls 5 [] → W p l e { frames := 0, cells := 0, slots := 0, locals := 0 } s9 m9 ag below meth c H locs 0 0 Q (F0 m9 53 ls [])) : ∀ (q9 : Nat) (x2 : Int32) (u : zJ), f_X4_addsLamp_L3 x1 q9 x2 u = some uo → ∀ (H : Heap) (locs : List Loc) (ls : Array Slot), va_P D vwCl (wdM ad cy g u) H → va_D A (wdM ad cy g u) → va_S A s9.heap H locs → lv_has ls 5 [(0, .ref (ad 0)), (1, .int x1), (2, .int x2)] → W p l e { frames := 0, cells := 0, slots := 0, locals := 0 } s9 m9 ag below meth c H locs 0 0 Q (F0 m9 3 ls []) := by
  obtain ⟨hx, hb, hml, hown, hts⟩ := id C0.1
  intro q9
  induction q9 with
  | zero =>
    intro x2 u hf
    rw [f_X4_addsLamp_L3] at hf
    cases hf
  | succ q9 ih =>
    intro x2 u hf H locs ls hP hD hS hl
    rw [f_X4_addsLamp_L3] at hf
    refine lv_iload_n hx hb dX4_addsLamp_3 rfl (lv_at hl 2 rfl) ?_
    refine lv_if_lt (tgt := 53) hx hb dX4_addsLamp_4 (by decide) (fun c1 => ?_) (fun c1 => ?_)
    · have hf := it_t c1 hf
      obtain rfl := Option.some.inj hf
      exact e0 _ _ _ hP hD hS (lv_sub hl [] rfl)
    · have hf := it_f c1 hf
      refine lv_iload_n hx hb dX4_addsLamp_7 rfl (lv_at hl 2 rfl) ?_
      refine lv_if_le (tgt := 25) hx hb dX4_addsLamp_8 (by decide) (fun c2 => ?_) (fun c2 => ?_)
      · have hf := it_t c2 hf
        refine lv_lconst (v := 0) hx hb dX4_addsLamp_25 (by decide) ?_
        refine lv_lstore_n (lv' := [(3, .long 0), (0, .ref (ad 0)), (1, .int x1), (2, .int x2)]) hx hb dX4_addsLamp_26 rfl hl (by decide) rfl (fun ls hl => ?_)
        refine lv_aload_n hx hb dX4_addsLamp_27 rfl (lv_at hl 1 rfl) ?_
        refine gf_X4_58 C0 hP 0 wdM_0 rfl dX4_addsLamp_28 ?_
        refine lv_iload_n hx hb dX4_addsLamp_31 rfl (lv_at hl 3 rfl) ?_
        refine lv_aload_n hx hb dX4_addsLamp_32 rfl (lv_at hl 1 rfl) ?_
        refine gf_X4_58 C0 hP 0 wdM_0 rfl dX4_addsLamp_33 ?_
        refine lv_iload_n hx hb dX4_addsLamp_36 rfl (lv_at hl 3 rfl) ?_
        obtain ⟨v3, ev3, h4, hf⟩ := zq_rd_s hf
        refine zla C0 hP 17 wdM_17 ev3 h4 dX4_addsLamp_37 ?_
        refine lv_bipush (v := 10) hx hb dX4_addsLamp_38 (by decide) ?_
        refine lv_iload_n hx hb dX4_addsLamp_40 rfl (lv_at hl 2 rfl) ?_
        refine lv_isub hx hb dX4_addsLamp_41 ?_
        refine lv_i2l hx hb dX4_addsLamp_42 rfl ?_
        refine lv_lmul hx hb dX4_addsLamp_43 ?_
        refine lv_lload_n hx hb dX4_addsLamp_44 rfl (lv_at hl 0 rfl) ?_
        refine lv_ladd hx hb dX4_addsLamp_45 ?_
        obtain ⟨h5, hf⟩ := zq_in_s hf
        obtain ⟨u6, eu6, hf⟩ := zq_lt_s hf
        refine zls (ws' := (wdM ad cy g u6)) C0 hP hD hS 17 wdM_17 h5 (by rw [eu6]; rfl) dX4_addsLamp_46 (fun H locs hP hD hS => ?_)
        refine lv_iinc (v := (x2 + (-1))) (lv' := [(2, .int (x2 + (-1))), (3, .long 0), (0, .ref (ad 0)), (1, .int x1)]) hx hb dX4_addsLamp_47 hl (k := 3) rfl rfl (by decide) rfl (fun ls hl => ?_)
        refine lv_goto (tgt := 3) hx hb dX4_addsLamp_50 (by decide) ?_
        exact ih (x2 + (-1)) u6 hf _ _ _ hP hD hS (lv_sub hl [2, 3, 0] rfl)
      · have hf := it_f c2 hf
        refine lv_aload_n hx hb dX4_addsLamp_11 rfl (lv_at hl 0 rfl) ?_
        refine gf_X4_58 C0 hP 0 wdM_0 rfl dX4_addsLamp_12 ?_
        refine lv_iload_n hx hb dX4_addsLamp_15 rfl (lv_at hl 2 rfl) ?_
        refine lv_iconst (v := 1) hx hb dX4_addsLamp_16 (by decide) ?_
        refine lv_isub hx hb dX4_addsLamp_17 ?_
        obtain ⟨v7, ev7, h8, hf⟩ := zq_rd_s hf
        refine zla C0 hP 17 wdM_17 ev7 h8 dX4_addsLamp_18 ?_
        refine lv_iload_n hx hb dX4_addsLamp_19 rfl (lv_at hl 1 rfl) ?_
        refine lv_i2l hx hb dX4_addsLamp_20 rfl ?_
        refine lv_lmul hx hb dX4_addsLamp_21 ?_
        refine lv_goto (tgt := 26) hx hb dX4_addsLamp_22 (by decide) ?_
        refine lv_lstore_n (lv' := [(3, .long (v7 * (Int32.toInt64 x1))), (0, .ref (ad 0)), (1, .int x1), (2, .int x2)]) hx hb dX4_addsLamp_26 rfl hl (by decide) rfl (fun ls hl => ?_)
        refine lv_aload_n hx hb dX4_addsLamp_27 rfl (lv_at hl 1 rfl) ?_
        refine gf_X4_58 C0 hP 0 wdM_0 rfl dX4_addsLamp_28 ?_
        refine lv_iload_n hx hb dX4_addsLamp_31 rfl (lv_at hl 3 rfl) ?_
        refine lv_aload_n hx hb dX4_addsLamp_32 rfl (lv_at hl 1 rfl) ?_
        refine gf_X4_58 C0 hP 0 wdM_0 rfl dX4_addsLamp_33 ?_
        refine lv_iload_n hx hb dX4_addsLamp_36 rfl (lv_at hl 3 rfl) ?_
        obtain ⟨v9, ev9, h10, hf⟩ := zq_rd_s hf
        refine zla C0 hP 17 wdM_17 ev9 h10 dX4_addsLamp_37 ?_
        refine lv_bipush (v := 10) hx hb dX4_addsLamp_38 (by decide) ?_
        refine lv_iload_n hx hb dX4_addsLamp_40 rfl (lv_at hl 2 rfl) ?_
        refine lv_isub hx hb dX4_addsLamp_41 ?_
        refine lv_i2l hx hb dX4_addsLamp_42 rfl ?_
        refine lv_lmul hx hb dX4_addsLamp_43 ?_
        refine lv_lload_n hx hb dX4_addsLamp_44 rfl (lv_at hl 0 rfl) ?_
        refine lv_ladd hx hb dX4_addsLamp_45 ?_
        obtain ⟨h11, hf⟩ := zq_in_s hf
        obtain ⟨u12, eu12, hf⟩ := zq_lt_s hf
        refine zls (ws' := (wdM ad cy g u12)) C0 hP hD hS 17 wdM_17 h11 (by rw [eu12]; rfl) dX4_addsLamp_46 (fun H locs hP hD hS => ?_)
        refine lv_iinc (v := (x2 + (-1))) (lv' := [(2, .int (x2 + (-1))), (3, .long (v7 * (Int32.toInt64 x1))), (0, .ref (ad 0)), (1, .int x1)]) hx hb dX4_addsLamp_47 hl (k := 3) rfl rfl (by decide) rfl (fun ls hl => ?_)
        refine lv_goto (tgt := 3) hx hb dX4_addsLamp_50 (by decide) ?_
        exact ih (x2 + (-1)) u12 hf _ _ _ hP hD hS (lv_sub hl [2, 3, 0] rfl)
set_option maxHeartbeats 4000000 in
set_option maxRecDepth 100000 in
theorem c_X4_addsLamp {l : Launch} {D : va_G} {ad : Nat → Nat} {cy : Nat → ClassId} {g : zS} {u : zJ} {x1 : Int32} {u' : zJ} (hf : f_X4_addsLamp u x1 = some u') : zMV l yX4_addsLamp (zW yX4_addsLamp cX4_addsLamp 5 none) { frames := 0, cells := 0, slots := 0, locals := 0 } D cy [.ref (ad 0), .int x1] (wdM ad cy g u) (wdM ad cy g u') := by
  unfold f_X4_addsLamp at hf
  refine zEV (by decide) (Nat.le_of_ble_eq_true rfl) ?_
  intro p e s9 m9 below meth c A Q C0 hret ls hl hP hD
  have hl : lv_has ls 5 [(0, .ref (ad 0)), (1, .int x1)] := hl
  have hS : va_S A s9.heap s9.heap [] := va_S.rf
  obtain ⟨hx, hb, hml, hown, hts⟩ := id C0.1
  refine lv_bipush (v := 16) hx hb dX4_addsLamp_0 (by decide) ?_
  refine lv_istore_n (lv' := [(2, .int 16), (0, .ref (ad 0)), (1, .int x1)]) hx hb dX4_addsLamp_2 rfl hl (by decide) rfl (fun ls hl => ?_)
  obtain ⟨u14, hL13, hf⟩ := zq_b1_s hf
  refine w_X4_addsLamp_L3 C0 (fun H locs ls hP hD hS hl => ?_) 100 16 u hL13 _ _ _ hP hD hS (lv_sub hl [1, 2, 0] rfl)
  obtain rfl := Option.some.inj hf
  exact hret _ _ _ _ dX4_addsLamp_53 hP hD hS

def f_X4_levelsLit_L4 (x0 : Int32) (x1 : Int32) : Nat → Int32 → Int32 → Option (Int32)
  | 0, _, _ => none
  | q9 + 1, x2, x3 =>
  if 9 < x3 then (
  some x2) else (
  zq_b1 (f_X4_lightBy x0 x3) (fun r3 =>
  f_X4_levelsLit_L4 x0 x1 q9 (x2 + ((r3 >>> (x1 &&& 31)) &&& 1)) (x3 + 1)))
def f_X4_levelsLit  (x0 : Int32) (x1 : Int32) : Option (Int32) :=
  zq_b1 (f_X4_levelsLit_L4 x0 x1 100 0 0) (fun y5 =>
  some y5)
set_option maxHeartbeats 4000000 in
set_option maxRecDepth 100000 in
theorem w_X4_levelsLit_L4 {l : Launch} {p : Program} {e : Env} {s9 : State} {m9 : MethodId} {ag : Array Value} {below : List Frame} {meth : Method} {c : Code} {A : Nat → Prop} {Q : State → Prop} {D : va_G} {cy : Nat → ClassId}  {x0 : Int32} {x1 : Int32} (C0 : zCx p s9 m9 ag c cX4_levelsLit 4 RX4 D cy A)  {o2 : Int32} (e0 : ∀ (H : Heap) (locs : List Loc) (ls : Array Slot), va_P D vwCl [] H → va_D A [] → va_S A s9.heap H locs → lv_has ls 4 [(2, .int o2)] → W p l e { frames := 1, cells := 0, slots := 0, locals := 21 } s9 m9 ag below meth c H locs 0 0 Q (F0 m9 28 ls [])) : ∀ (q9 : Nat) (x2 : Int32) (x3 : Int32), f_X4_levelsLit_L4 x0 x1 q9 x2 x3 = some o2 → ∀ (H : Heap) (locs : List Loc) (ls : Array Slot), va_P D vwCl [] H → va_D A [] → va_S A s9.heap H locs → lv_has ls 4 [(0, .int x0), (1, .int x1), (2, .int x2), (3, .int x3)] → W p l e { frames := 1, cells := 0, slots := 0, locals := 21 } s9 m9 ag below meth c H locs 0 0 Q (F0 m9 4 ls []) := by
  obtain ⟨hx, hb, hml, hown, hts⟩ := id C0.1
  intro q9
  induction q9 with
  | zero =>
    intro x2 x3 hf
    rw [f_X4_levelsLit_L4] at hf
    cases hf
  | succ q9 ih =>
    intro x2 x3 hf H locs ls hP hD hS hl
    rw [f_X4_levelsLit_L4] at hf
    refine lv_iload_n hx hb dX4_levelsLit_4 rfl (lv_at hl 3 rfl) ?_
    refine lv_bipush (v := 9) hx hb dX4_levelsLit_5 (by decide) ?_
    refine lv_icmp_gt (tgt := 28) hx hb dX4_levelsLit_7 (by decide) (fun c1 => ?_) (fun c1 => ?_)
    · have hf := it_t c1 hf
      obtain rfl := Option.some.inj hf
      exact e0 _ _ _ hP hD hS (lv_sub hl [2] rfl)
    · have hf := it_f c1 hf
      refine lv_iload_n hx hb dX4_levelsLit_10 rfl (lv_at hl 2 rfl) ?_
      refine lv_iload_n hx hb dX4_levelsLit_11 rfl (lv_at hl 0 rfl) ?_
      refine lv_iload_n hx hb dX4_levelsLit_12 rfl (lv_at hl 3 rfl) ?_
      obtain ⟨r3, hc2, hf⟩ := zq_b1_s hf
      refine zSI (ws' := []) (rest := [.int x2]) C0 (fun _ h => h) zF.nil (c_X4_lightBy hc2) hP hD hS my_X4_lightBy kl_X4_150 ⟨rfl, rfl⟩ ⟨Nat.le_of_ble_eq_true rfl, Nat.le_of_ble_eq_true rfl⟩ rfl hl.1 rfl (Nat.le_of_ble_eq_true rfl) dX4_levelsLit_13 ⟨Nat.zero_le _, Nat.zero_le _⟩ (fun H locs hP hD hS => ?_)
      refine lv_iload_n hx hb dX4_levelsLit_16 rfl (lv_at hl 1 rfl) ?_
      refine lv_ishr hx hb dX4_levelsLit_17 ?_
      refine lv_iconst (v := 1) hx hb dX4_levelsLit_18 (by decide) ?_
      refine lv_iand hx hb dX4_levelsLit_19 ?_
      refine lv_iadd hx hb dX4_levelsLit_20 ?_
      refine lv_istore_n (lv' := [(2, .int (x2 + ((r3 >>> (x1 &&& 31)) &&& 1))), (0, .int x0), (1, .int x1), (3, .int x3)]) hx hb dX4_levelsLit_21 rfl hl (by decide) rfl (fun ls hl => ?_)
      refine lv_iinc (v := (x3 + 1)) (lv' := [(3, .int (x3 + 1)), (2, .int (x2 + ((r3 >>> (x1 &&& 31)) &&& 1))), (0, .int x0), (1, .int x1)]) hx hb dX4_levelsLit_22 hl (k := 3) rfl rfl (by decide) rfl (fun ls hl => ?_)
      refine lv_goto (tgt := 4) hx hb dX4_levelsLit_25 (by decide) ?_
      exact ih (x2 + ((r3 >>> (x1 &&& 31)) &&& 1)) (x3 + 1) hf _ _ _ hP hD hS (lv_sub hl [2, 3, 1, 0] rfl)
set_option maxHeartbeats 4000000 in
set_option maxRecDepth 100000 in
theorem c_X4_levelsLit {l : Launch} {D : va_G} {cy : Nat → ClassId}   {x0 : Int32} {x1 : Int32} {r0 : Int32} (hf : f_X4_levelsLit x0 x1 = some r0) : zMI l yX4_levelsLit (zW yX4_levelsLit cX4_levelsLit 4 (some .int)) { frames := 1, cells := 0, slots := 0, locals := 21 } D cy [.int x0, .int x1] [] r0 [] := by
  unfold f_X4_levelsLit at hf
  refine zEI (ty := .int) (by decide) (Nat.le_of_ble_eq_true rfl) ?_
  intro p e s9 m9 below meth c A Q C0 hret ls hl hP hD
  have hl : lv_has ls 4 [(0, .int x0), (1, .int x1)] := hl
  have hS : va_S A s9.heap s9.heap [] := va_S.rf
  obtain ⟨hx, hb, hml, hown, hts⟩ := id C0.1
  refine lv_iconst (v := 0) hx hb dX4_levelsLit_0 (by decide) ?_
  refine lv_istore_n (lv' := [(2, .int 0), (0, .int x0), (1, .int x1)]) hx hb dX4_levelsLit_1 rfl hl (by decide) rfl (fun ls hl => ?_)
  refine lv_iconst (v := 0) hx hb dX4_levelsLit_2 (by decide) ?_
  refine lv_istore_n (lv' := [(3, .int 0), (2, .int 0), (0, .int x0), (1, .int x1)]) hx hb dX4_levelsLit_3 rfl hl (by decide) rfl (fun ls hl => ?_)
  obtain ⟨y5, hL4, hf⟩ := zq_b1_s hf
  refine w_X4_levelsLit_L4 C0 (fun H locs ls hP hD hS hl => ?_) 100 0 0 hL4 _ _ _ hP hD hS (lv_sub hl [2, 3, 1, 0] rfl)
  refine lv_iload_n hx hb dX4_levelsLit_28 rfl (lv_at hl 0 rfl) ?_
  obtain rfl := Option.some.inj hf
  exact hret _ _ _ _ rfl dX4_levelsLit_29 hP hD hS
