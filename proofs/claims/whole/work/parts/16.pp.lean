-- PicturePacker.side(I)I
theorem d_PP_side_0 : decode prog_1_method_9_code 0 = .ok (.iconst 1, 1) := by decide +kernel
theorem d_PP_side_1 : decode prog_1_method_9_code 1 = .ok (.iload_n 0, 1) := by decide +kernel
theorem d_PP_side_2 : decode prog_1_method_9_code 2 = .ok (.bipush 48, 2) := by decide +kernel
theorem d_PP_side_4 : decode prog_1_method_9_code 4 = .ok (.invokestatic 83, 3) := by decide +kernel
theorem d_PP_side_7 : decode prog_1_method_9_code 7 = .ok (.invokestatic 73, 3) := by decide +kernel
theorem d_PP_side_10 : decode prog_1_method_9_code 10 = .ok (.ireturn, 1) := by decide +kernel
abbrev y_PP_side : MethodName := ⟨"PicturePacker", "side", "(I)I"⟩
def wp_PP_side (n : Nat → Nat) (x0 : Int32) (post : Int32 → Unit → Prop) : Prop := post (if (1 : Int32) < (if (48 : Int32) < x0 then 48 else x0) then if (48 : Int32) < x0 then 48 else x0 else 1) ()
set_option maxHeartbeats 2000000 in
set_option maxRecDepth 20000 in
theorem c_PP_side {l : Launch} {dC : Nat → ClassId} {dI : Nat → Nat → Nat} {cI : ClassId} {tb : Tbs} {a n : Nat → Nat} {x0 : Int32} {post : Int32 → Unit → Prop} (h : wp_PP_side n x0 post) : CtI classes dC dI cI tb l y_PP_side prog_1_method_9_code 1 .int ({ frames := 1, cells := 0, slots := 0, locals := 21 }) [.int x0] [] (Unit) (fun _ => []) post := by
  refine startI (by decide) (Nat.le_of_ble_eq_true rfl) ?_
  intro p e s m below meth c ls E hr hlk hnm hl hw
  have hl : lv_has ls 1 [(0, .int x0)] := hl
  generalize va_A [] s.heap.size = A at hw ⊢
  obtain ⟨hx, hb, hml, hown, hts⟩ := id E
  unfold wp_PP_side at h
  refine lv_iconst (v := 1) hx hb d_PP_side_0 (by decide) ?_
  refine lv_iload_n hx hb d_PP_side_1 rfl (lv_at hl 0 rfl) ?_
  refine lv_bipush (v := 48) hx hb d_PP_side_2 (by decide) ?_
  refine kmin E hl.1 tw56 tw57 tw35 tw58 (Nat.le_of_ble_eq_true rfl) (Nat.le_of_ble_eq_true rfl) (Nat.le_of_ble_eq_true rfl) (Nat.le_of_ble_eq_true rfl) d_PP_side_4 ?_
  refine kmax E hl.1 tw59 tw60 tw35 tw61 (Nat.le_of_ble_eq_true rfl) (Nat.le_of_ble_eq_true rfl) (Nat.le_of_ble_eq_true rfl) (Nat.le_of_ble_eq_true rfl) d_PP_side_7 ?_
  exact retI (out := fun u => []) (u := ()) E hr hlk rfl hw h d_PP_side_10
-- PicturePacker.set(III)Z
theorem d_PP_set_0 : decode prog_1_method_2_code 0 = .ok (.aload_n 0, 1) := by decide +kernel
theorem d_PP_set_1 : decode prog_1_method_2_code 1 = .ok (.getfield 18, 3) := by decide +kernel
theorem d_PP_set_4 : decode prog_1_method_2_code 4 = .ok (.iload_n 1, 1) := by decide +kernel
theorem d_PP_set_5 : decode prog_1_method_2_code 5 = .ok (.iload_n 2, 1) := by decide +kernel
theorem d_PP_set_6 : decode prog_1_method_2_code 6 = .ok (.invokevirtual 65, 3) := by decide +kernel
theorem d_PP_set_9 : decode prog_1_method_2_code 9 = .ok (.ifCond .ne 5, 3) := by decide +kernel
theorem d_PP_set_12 : decode prog_1_method_2_code 12 = .ok (.iconst 0, 1) := by decide +kernel
theorem d_PP_set_13 : decode prog_1_method_2_code 13 = .ok (.ireturn, 1) := by decide +kernel
theorem d_PP_set_14 : decode prog_1_method_2_code 14 = .ok (.aload_n 0, 1) := by decide +kernel
theorem d_PP_set_15 : decode prog_1_method_2_code 15 = .ok (.getfield 18, 3) := by decide +kernel
theorem d_PP_set_18 : decode prog_1_method_2_code 18 = .ok (.iload_n 1, 1) := by decide +kernel
theorem d_PP_set_19 : decode prog_1_method_2_code 19 = .ok (.iload_n 2, 1) := by decide +kernel
theorem d_PP_set_20 : decode prog_1_method_2_code 20 = .ok (.iload_n 3, 1) := by decide +kernel
theorem d_PP_set_21 : decode prog_1_method_2_code 21 = .ok (.invokevirtual 69, 3) := by decide +kernel
theorem d_PP_set_24 : decode prog_1_method_2_code 24 = .ok (.iconst 1, 1) := by decide +kernel
theorem d_PP_set_25 : decode prog_1_method_2_code 25 = .ok (.ireturn, 1) := by decide +kernel
abbrev y_PP_set : MethodName := ⟨"PicturePacker", "set", "(III)Z"⟩
def wp_PP_set (n : Nat → Nat) (Pic_width : Int32) (Pic_height : Int32) (Pic_stride : Int32) (pb : Nat → Int32) (x1 : Int32) (x2 : Int32) (x3 : Int32) (post : Int32 → ((Nat → Int32)) → Prop) : Prop := wp_Pic_has n Pic_width Pic_height x1 x2 (fun r2 _ => (¬ (r2 : Int32) = 0 → (wp_Pic_paint n Pic_stride pb x1 x2 x3 (fun u4 => narrow .boolean (.int 1) = .int 1 ∧ post 1 u4))) ∧ ((r2 : Int32) = 0 → (narrow .boolean (.int 0) = .int 0 ∧ post 0 pb)))
set_option maxHeartbeats 2000000 in
set_option maxRecDepth 20000 in
theorem c_PP_set {l : Launch} {dC : Nat → ClassId} {dI : Nat → Nat → Nat} {cI : ClassId} {tb : Tbs} {a n : Nat → Nat} {Pic_width : Int32} {Pic_height : Int32} {Pic_stride : Int32} {pb : Nat → Int32} {x1 : Int32} {x2 : Int32} {x3 : Int32} {post : Int32 → ((Nat → Int32)) → Prop} (h : wp_PP_set n Pic_width Pic_height Pic_stride pb x1 x2 x3 post) : CtI classes dC dI cI tb l y_PP_set prog_1_method_2_code 4 .boolean ({ frames := 2, cells := 0, slots := 0, locals := 46 }) [.ref (a 0), .int x1, .int x2, .int x3] [e_PP a, e_Pic a Pic_width Pic_height Pic_stride, e_ar a n cI 8 pb] ((Nat → Int32)) (fun u => [e_PP a, e_Pic a Pic_width Pic_height Pic_stride, e_ar a n cI 8 u]) post := by
  refine startI (by decide) (Nat.le_of_ble_eq_true rfl) ?_
  intro p e s m below meth c ls E hr hlk hnm hl hw
  have hl : lv_has ls 4 [(0, .ref (a 0)), (1, .int x1), (2, .int x2), (3, .int x3)] := hl
  generalize va_A [e_PP a, e_Pic a Pic_width Pic_height Pic_stride, e_ar a n cI 8 pb] s.heap.size = A at hw ⊢
  obtain ⟨hx, hb, hml, hown, hts⟩ := id E
  unfold wp_PP_set at h
  refine lv_aload_n hx hb d_PP_set_0 rfl (lv_at hl 0 rfl) ?_
  refine kget (v := .ref (a 1)) (T := F_PP) E hw in_PP rfl 0 0 rfl (by decide) tw209 rfl d_PP_set_1 ?_
  refine lv_iload_n hx hb d_PP_set_4 rfl (lv_at hl 1 rfl) ?_
  refine lv_iload_n hx hb d_PP_set_5 rfl (lv_at hl 2 rfl) ?_
  refine kVi (y := y_Pic_has) (ws' := fun _ => [e_PP a, e_Pic a Pic_width Pic_height Pic_stride, e_ar a n cI 8 pb]) (wr := [e_PP a, e_ar a n cI 8 pb]) (As := [.int x1, .int x2]) (rest := []) E hw (c_Pic_has (l := l) (dC := dC) (dI := dI) (cI := cI) (tb := tb) (a := a) (n := n) (Pic_width := Pic_width) (Pic_height := Pic_height) (Pic_stride := Pic_stride) (x1 := x1) (x2 := x2) h) tw229 tw230 tw231 tw34 tw232 2 (by decide) ⟨Nat.le_of_ble_eq_true rfl, Nat.le_of_ble_eq_true rfl⟩ ⟨Nat.le_of_ble_eq_true rfl, Nat.le_of_ble_eq_true rfl⟩ ⟨rfl, rfl⟩ rfl rfl 1 rfl [1] [0, 2] [0, 2, 1] rfl rfl rfl rfl (by decide) rfl (fun _ => rfl) hl.1 rfl rfl (Nat.le_of_ble_eq_true rfl) d_PP_set_6 (fun r2 u1 H locs h hw => ?_)
  refine lv_if_ne (tgt := 14) hx hb d_PP_set_9 (by decide) (fun c3 => ?_) (fun c3 => ?_)
  · have h := h.1 c3
    refine lv_aload_n hx hb d_PP_set_14 rfl (lv_at hl 0 rfl) ?_
    refine kget (v := .ref (a 1)) (T := F_PP) E hw in_PP rfl 0 0 rfl (by decide) tw209 rfl d_PP_set_15 ?_
    refine lv_iload_n hx hb d_PP_set_18 rfl (lv_at hl 1 rfl) ?_
    refine lv_iload_n hx hb d_PP_set_19 rfl (lv_at hl 2 rfl) ?_
    refine lv_iload_n hx hb d_PP_set_20 rfl (lv_at hl 3 rfl) ?_
    refine kVv (y := y_Pic_paint) (ws' := fun u4 => [e_PP a, e_Pic a Pic_width Pic_height Pic_stride, e_ar a n cI 8 u4]) (wr := [e_PP a]) (As := [.int x1, .int x2, .int x3]) (rest := []) E hw (c_Pic_paint (l := l) (dC := dC) (dI := dI) (cI := cI) (tb := tb) (a := a) (n := n) (Pic_width := Pic_width) (Pic_height := Pic_height) (Pic_stride := Pic_stride) (pb := pb) (x1 := x1) (x2 := x2) (x3 := x3) h) tw233 tw234 tw235 tw34 tw236 3 (by decide) ⟨Nat.le_of_ble_eq_true rfl, Nat.le_of_ble_eq_true rfl⟩ ⟨Nat.le_of_ble_eq_true rfl, Nat.le_of_ble_eq_true rfl⟩ ⟨rfl, rfl⟩ rfl rfl 1 rfl [1, 2] [0] [0, 1, 2] rfl rfl rfl rfl (by decide) rfl (fun _ => rfl) hl.1 rfl rfl (Nat.le_of_ble_eq_true rfl) d_PP_set_21 (fun u4 H locs h hw => ?_)
    refine lv_iconst (v := 1) hx hb d_PP_set_24 (by decide) ?_
    exact retI (out := fun u => [e_PP a, e_Pic a Pic_width Pic_height Pic_stride, e_ar a n cI 8 u]) (u := u4) E hr hlk h.1 hw h.2 d_PP_set_25
  · have h := h.2 c3
    refine lv_iconst (v := 0) hx hb d_PP_set_12 (by decide) ?_
    exact retI (out := fun u => [e_PP a, e_Pic a Pic_width Pic_height Pic_stride, e_ar a n cI 8 u]) (u := pb) E hr hlk h.1 hw h.2 d_PP_set_13
-- PicturePacker.fill(IIII)I
theorem d_PP_fill_0 : decode prog_1_method_3_code 0 = .ok (.iload_n 2, 1) := by decide +kernel
theorem d_PP_fill_1 : decode prog_1_method_3_code 1 = .ok (.iconst 0, 1) := by decide +kernel
theorem d_PP_fill_2 : decode prog_1_method_3_code 2 = .ok (.invokestatic 73, 3) := by decide +kernel
theorem d_PP_fill_5 : decode prog_1_method_3_code 5 = .ok (.istore 5, 2) := by decide +kernel
theorem d_PP_fill_7 : decode prog_1_method_3_code 7 = .ok (.iload_n 3, 1) := by decide +kernel
theorem d_PP_fill_8 : decode prog_1_method_3_code 8 = .ok (.aload_n 0, 1) := by decide +kernel
theorem d_PP_fill_9 : decode prog_1_method_3_code 9 = .ok (.getfield 18, 3) := by decide +kernel
theorem d_PP_fill_12 : decode prog_1_method_3_code 12 = .ok (.getfield 79, 3) := by decide +kernel
theorem d_PP_fill_15 : decode prog_1_method_3_code 15 = .ok (.iconst 1, 1) := by decide +kernel
theorem d_PP_fill_16 : decode prog_1_method_3_code 16 = .ok (.isub, 1) := by decide +kernel
theorem d_PP_fill_17 : decode prog_1_method_3_code 17 = .ok (.invokestatic 83, 3) := by decide +kernel
theorem d_PP_fill_20 : decode prog_1_method_3_code 20 = .ok (.istore 6, 2) := by decide +kernel
theorem d_PP_fill_22 : decode prog_1_method_3_code 22 = .ok (.aload_n 0, 1) := by decide +kernel
theorem d_PP_fill_23 : decode prog_1_method_3_code 23 = .ok (.getfield 18, 3) := by decide +kernel
theorem d_PP_fill_26 : decode prog_1_method_3_code 26 = .ok (.iconst 0, 1) := by decide +kernel
theorem d_PP_fill_27 : decode prog_1_method_3_code 27 = .ok (.iload_n 1, 1) := by decide +kernel
theorem d_PP_fill_28 : decode prog_1_method_3_code 28 = .ok (.invokevirtual 65, 3) := by decide +kernel
theorem d_PP_fill_31 : decode prog_1_method_3_code 31 = .ok (.ifCond .eq 10, 3) := by decide +kernel
theorem d_PP_fill_34 : decode prog_1_method_3_code 34 = .ok (.iload 5, 2) := by decide +kernel
theorem d_PP_fill_36 : decode prog_1_method_3_code 36 = .ok (.iload 6, 2) := by decide +kernel
theorem d_PP_fill_38 : decode prog_1_method_3_code 38 = .ok (.if_icmp .le 5, 3) := by decide +kernel
theorem d_PP_fill_41 : decode prog_1_method_3_code 41 = .ok (.iconst 0, 1) := by decide +kernel
theorem d_PP_fill_42 : decode prog_1_method_3_code 42 = .ok (.ireturn, 1) := by decide +kernel
theorem d_PP_fill_43 : decode prog_1_method_3_code 43 = .ok (.iload 5, 2) := by decide +kernel
theorem d_PP_fill_45 : decode prog_1_method_3_code 45 = .ok (.istore 7, 2) := by decide +kernel
theorem d_PP_fill_47 : decode prog_1_method_3_code 47 = .ok (.iload 7, 2) := by decide +kernel
theorem d_PP_fill_49 : decode prog_1_method_3_code 49 = .ok (.iload 6, 2) := by decide +kernel
theorem d_PP_fill_51 : decode prog_1_method_3_code 51 = .ok (.if_icmp .gt 21, 3) := by decide +kernel
theorem d_PP_fill_54 : decode prog_1_method_3_code 54 = .ok (.aload_n 0, 1) := by decide +kernel
theorem d_PP_fill_55 : decode prog_1_method_3_code 55 = .ok (.getfield 18, 3) := by decide +kernel
theorem d_PP_fill_58 : decode prog_1_method_3_code 58 = .ok (.iload 7, 2) := by decide +kernel
theorem d_PP_fill_60 : decode prog_1_method_3_code 60 = .ok (.iload_n 1, 1) := by decide +kernel
theorem d_PP_fill_61 : decode prog_1_method_3_code 61 = .ok (.iload 4, 2) := by decide +kernel
theorem d_PP_fill_63 : decode prog_1_method_3_code 63 = .ok (.invokevirtual 69, 3) := by decide +kernel
theorem d_PP_fill_66 : decode prog_1_method_3_code 66 = .ok (.iinc 7 1, 3) := by decide +kernel
theorem d_PP_fill_69 : decode prog_1_method_3_code 69 = .ok (.goto (-22), 3) := by decide +kernel
theorem d_PP_fill_72 : decode prog_1_method_3_code 72 = .ok (.iload 6, 2) := by decide +kernel
theorem d_PP_fill_74 : decode prog_1_method_3_code 74 = .ok (.iload 5, 2) := by decide +kernel
theorem d_PP_fill_76 : decode prog_1_method_3_code 76 = .ok (.isub, 1) := by decide +kernel
theorem d_PP_fill_77 : decode prog_1_method_3_code 77 = .ok (.iconst 1, 1) := by decide +kernel
theorem d_PP_fill_78 : decode prog_1_method_3_code 78 = .ok (.iadd, 1) := by decide +kernel
theorem d_PP_fill_79 : decode prog_1_method_3_code 79 = .ok (.ireturn, 1) := by decide +kernel
abbrev y_PP_fill : MethodName := ⟨"PicturePacker", "fill", "(IIII)I"⟩
def wp_PP_fill_47 (n : Nat → Nat) (Pic_width : Int32) (Pic_height : Int32) (Pic_stride : Int32) (x1 : Int32) (x2 : Int32) (x3 : Int32) (x4 : Int32) (post : Int32 → ((Nat → Int32)) → Prop) : Nat → (Nat → Int32) → Int32 → Int32 → Int32 → Prop
  | 0 => fun _ _ _ _ => False
  | N + 1 => fun pb y5 y6 y7 => ((y6 : Int32) < y7 → (post ((y6 - y5) + 1) pb)) ∧ (¬ ((y6 : Int32) < y7) → (wp_Pic_paint n Pic_stride pb y7 x1 x4 (fun u8 => ∀ z10 : Int32, z10 = (y7 + 1) → (wp_PP_fill_47 n Pic_width Pic_height Pic_stride x1 x2 x3 x4 post N u8 y5 y6 z10))))
def wp_PP_fill (n : Nat → Nat) (Pic_width : Int32) (Pic_height : Int32) (Pic_stride : Int32) (pb : Nat → Int32) (x1 : Int32) (x2 : Int32) (x3 : Int32) (x4 : Int32) (post : Int32 → ((Nat → Int32)) → Prop) : Prop := ∀ z1 : Int32, z1 = (if (x2 : Int32) < 0 then 0 else x2) → (∀ z2 : Int32, z2 = (if (Pic_width - 1 : Int32) < x3 then Pic_width - 1 else x3) → (wp_Pic_has n Pic_width Pic_height 0 x1 (fun r4 _ => ((r4 : Int32) = 0 → (post 0 pb)) ∧ (¬ ((r4 : Int32) = 0) → (((z1 : Int32) ≤ z2 → (∃ N11 : Nat, wp_PP_fill_47 n Pic_width Pic_height Pic_stride x1 x2 x3 x4 post N11 pb z1 z2 z1)) ∧ (¬ ((z1 : Int32) ≤ z2) → (post 0 pb)))))))
set_option maxHeartbeats 2000000 in
set_option maxRecDepth 20000 in
theorem s_PP_fill_47 {l : Launch} {dC : Nat → ClassId} {dI : Nat → Nat → Nat} {cI : ClassId} {tb : Tbs} {a n : Nat → Nat} {p : Program} {e : Env} {s : State} {m : MethodId} {args : Array Value} {below : List Frame} {meth : Method} {c : Code} {A : Nat → Prop} (E : CallFix p m c prog_1_method_3_code 8 s args TBL "PicturePacker") (hr : meth.sig.returnType = some .int) (hlk : meth.locks = false) {Pic_width : Int32} {Pic_height : Int32} {Pic_stride : Int32} {x1 : Int32} {x2 : Int32} {x3 : Int32} {x4 : Int32} {post : Int32 → ((Nat → Int32)) → Prop} : ∀ (N : Nat) (pb : Nat → Int32) (y5 : Int32) (y6 : Int32) (y7 : Int32) (H : Heap) (locs : List Loc) (ls : Array Slot), Wl classes dC dI cI tb A s H locs [e_PP a, e_Pic a Pic_width Pic_height Pic_stride, e_ar a n cI 8 pb] → lv_has ls 8 [(0, .ref (a 0)), (1, .int x1), (4, .int x4), (5, .int y5), (6, .int y6), (7, .int y7)] → wp_PP_fill_47 n Pic_width Pic_height Pic_stride x1 x2 x3 x4 post N pb y5 y6 y7 → W p l e ({ frames := 2, cells := 0, slots := 0, locals := 46 }) s m args below meth c H locs 0 0 (MQ below (va_Qi post (fun u => End0 classes dC dI cI A [e_PP a, e_Pic a Pic_width Pic_height Pic_stride, e_ar a n cI 8 u]) A) args s 0 0 A) (F0 m 47 ls []) := by
  obtain ⟨hx, hb, hml, hown, hts⟩ := id E
  intro N
  induction N with
  | zero =>
    intro _ _ _ _ H locs ls hw hl h
    exact absurd h id
  | succ N ih =>
    intro pb y5 y6 y7 H locs ls hw hl h
    unfold wp_PP_fill_47 at h
    refine lv_iload hx hb d_PP_fill_47 (lv_at hl 5 rfl) ?_
    refine lv_iload hx hb d_PP_fill_49 (lv_at hl 4 rfl) ?_
    refine lv_icmp_gt (tgt := 72) hx hb d_PP_fill_51 (by decide) (fun c7 => ?_) (fun c7 => ?_)
    · have h := h.1 c7
      refine lv_iload hx hb d_PP_fill_72 (lv_at hl 4 rfl) ?_
      refine lv_iload hx hb d_PP_fill_74 (lv_at hl 3 rfl) ?_
      refine lv_isub hx hb d_PP_fill_76 ?_
      refine lv_iconst (v := 1) hx hb d_PP_fill_77 (by decide) ?_
      refine lv_iadd hx hb d_PP_fill_78 ?_
      exact retI (out := fun u => [e_PP a, e_Pic a Pic_width Pic_height Pic_stride, e_ar a n cI 8 u]) (u := pb) E hr hlk rfl hw h d_PP_fill_79
    · have h := h.2 c7
      refine lv_aload_n hx hb d_PP_fill_54 rfl (lv_at hl 0 rfl) ?_
      refine kget (v := .ref (a 1)) (T := F_PP) E hw in_PP rfl 0 0 rfl (by decide) tw209 rfl d_PP_fill_55 ?_
      refine lv_iload hx hb d_PP_fill_58 (lv_at hl 5 rfl) ?_
      refine lv_iload_n hx hb d_PP_fill_60 rfl (lv_at hl 1 rfl) ?_
      refine lv_iload hx hb d_PP_fill_61 (lv_at hl 2 rfl) ?_
      refine kVv (y := y_Pic_paint) (ws' := fun u8 => [e_PP a, e_Pic a Pic_width Pic_height Pic_stride, e_ar a n cI 8 u8]) (wr := [e_PP a]) (As := [.int y7, .int x1, .int x4]) (rest := []) E hw (c_Pic_paint (l := l) (dC := dC) (dI := dI) (cI := cI) (tb := tb) (a := a) (n := n) (Pic_width := Pic_width) (Pic_height := Pic_height) (Pic_stride := Pic_stride) (pb := pb) (x1 := y7) (x2 := x1) (x3 := x4) h) tw233 tw234 tw235 tw34 tw236 3 (by decide) ⟨Nat.le_of_ble_eq_true rfl, Nat.le_of_ble_eq_true rfl⟩ ⟨Nat.le_of_ble_eq_true rfl, Nat.le_of_ble_eq_true rfl⟩ ⟨rfl, rfl⟩ rfl rfl 1 rfl [1, 2] [0] [0, 1, 2] rfl rfl rfl rfl (by decide) rfl (fun _ => rfl) hl.1 rfl rfl (Nat.le_of_ble_eq_true rfl) d_PP_fill_63 (fun u8 H locs h hw => ?_)
      obtain ⟨z10, ez10⟩ : ∃ z : Int32, z = y7 + 1 := ⟨_, rfl⟩
      have h := h z10 ez10
      refine lv_iinc (v := z10) (lv' := [(7, .int z10), (0, .ref (a 0)), (1, .int x1), (4, .int x4), (5, .int y5), (6, .int y6)]) hx hb d_PP_fill_66 hl (k := 5) rfl (by rw [ez10]; exact congrArg (y7 + ·) (by decide)) (by decide) rfl (fun ls hl => ?_)
      refine lv_goto (tgt := 47) hx hb d_PP_fill_69 (by decide) ?_
      exact ih u8 y5 y6 z10 _ _ ls hw (lv_sub hl [1, 2, 3, 4, 5, 0] rfl) h
set_option maxHeartbeats 2000000 in
set_option maxRecDepth 20000 in
theorem c_PP_fill {l : Launch} {dC : Nat → ClassId} {dI : Nat → Nat → Nat} {cI : ClassId} {tb : Tbs} {a n : Nat → Nat} {Pic_width : Int32} {Pic_height : Int32} {Pic_stride : Int32} {pb : Nat → Int32} {x1 : Int32} {x2 : Int32} {x3 : Int32} {x4 : Int32} {post : Int32 → ((Nat → Int32)) → Prop} (h : wp_PP_fill n Pic_width Pic_height Pic_stride pb x1 x2 x3 x4 post) : CtI classes dC dI cI tb l y_PP_fill prog_1_method_3_code 8 .int ({ frames := 2, cells := 0, slots := 0, locals := 46 }) [.ref (a 0), .int x1, .int x2, .int x3, .int x4] [e_PP a, e_Pic a Pic_width Pic_height Pic_stride, e_ar a n cI 8 pb] ((Nat → Int32)) (fun u => [e_PP a, e_Pic a Pic_width Pic_height Pic_stride, e_ar a n cI 8 u]) post := by
  refine startI (by decide) (Nat.le_of_ble_eq_true rfl) ?_
  intro p e s m below meth c ls E hr hlk hnm hl hw
  have hl : lv_has ls 8 [(0, .ref (a 0)), (1, .int x1), (2, .int x2), (3, .int x3), (4, .int x4)] := hl
  generalize va_A [e_PP a, e_Pic a Pic_width Pic_height Pic_stride, e_ar a n cI 8 pb] s.heap.size = A at hw ⊢
  obtain ⟨hx, hb, hml, hown, hts⟩ := id E
  unfold wp_PP_fill at h
  refine lv_iload_n hx hb d_PP_fill_0 rfl (lv_at hl 2 rfl) ?_
  refine lv_iconst (v := 0) hx hb d_PP_fill_1 (by decide) ?_
  refine kmax E hl.1 tw59 tw60 tw35 tw61 (Nat.le_of_ble_eq_true rfl) (Nat.le_of_ble_eq_true rfl) (Nat.le_of_ble_eq_true rfl) (Nat.le_of_ble_eq_true rfl) d_PP_fill_2 ?_
  refine lv_topi (fun z1 ez1 => ?_)
  have h := h z1 ez1
  refine lv_istore (lv' := [(5, .int z1), (0, .ref (a 0)), (1, .int x1), (2, .int x2), (3, .int x3), (4, .int x4)]) hx hb d_PP_fill_5 hl (by decide) rfl (fun ls hl => ?_)
  refine lv_iload_n hx hb d_PP_fill_7 rfl (lv_at hl 4 rfl) ?_
  refine lv_aload_n hx hb d_PP_fill_8 rfl (lv_at hl 1 rfl) ?_
  refine kget (v := .ref (a 1)) (T := F_PP) E hw in_PP rfl 0 0 rfl (by decide) tw209 rfl d_PP_fill_9 ?_
  refine kget (v := .int Pic_width) (T := F_Pic) E hw in_Pic rfl 1 0 rfl (by decide) tw68 rfl d_PP_fill_12 ?_
  refine lv_iconst (v := 1) hx hb d_PP_fill_15 (by decide) ?_
  refine lv_isub hx hb d_PP_fill_16 ?_
  refine kmin E hl.1 tw56 tw57 tw35 tw58 (Nat.le_of_ble_eq_true rfl) (Nat.le_of_ble_eq_true rfl) (Nat.le_of_ble_eq_true rfl) (Nat.le_of_ble_eq_true rfl) d_PP_fill_17 ?_
  refine lv_topi (fun z2 ez2 => ?_)
  have h := h z2 ez2
  refine lv_istore (lv' := [(6, .int z2), (5, .int z1), (0, .ref (a 0)), (1, .int x1), (2, .int x2), (3, .int x3), (4, .int x4)]) hx hb d_PP_fill_20 hl (by decide) rfl (fun ls hl => ?_)
  refine lv_aload_n hx hb d_PP_fill_22 rfl (lv_at hl 2 rfl) ?_
  refine kget (v := .ref (a 1)) (T := F_PP) E hw in_PP rfl 0 0 rfl (by decide) tw209 rfl d_PP_fill_23 ?_
  refine lv_iconst (v := 0) hx hb d_PP_fill_26 (by decide) ?_
  refine lv_iload_n hx hb d_PP_fill_27 rfl (lv_at hl 3 rfl) ?_
  refine kVi (y := y_Pic_has) (ws' := fun _ => [e_PP a, e_Pic a Pic_width Pic_height Pic_stride, e_ar a n cI 8 pb]) (wr := [e_PP a, e_ar a n cI 8 pb]) (As := [.int 0, .int x1]) (rest := []) E hw (c_Pic_has (l := l) (dC := dC) (dI := dI) (cI := cI) (tb := tb) (a := a) (n := n) (Pic_width := Pic_width) (Pic_height := Pic_height) (Pic_stride := Pic_stride) (x1 := 0) (x2 := x1) h) tw229 tw230 tw231 tw34 tw232 2 (by decide) ⟨Nat.le_of_ble_eq_true rfl, Nat.le_of_ble_eq_true rfl⟩ ⟨Nat.le_of_ble_eq_true rfl, Nat.le_of_ble_eq_true rfl⟩ ⟨rfl, rfl⟩ rfl rfl 1 rfl [1] [0, 2] [0, 2, 1] rfl rfl rfl rfl (by decide) rfl (fun _ => rfl) hl.1 rfl rfl (Nat.le_of_ble_eq_true rfl) d_PP_fill_28 (fun r4 u3 H locs h hw => ?_)
  refine lv_if_eq (tgt := 41) hx hb d_PP_fill_31 (by decide) (fun c5 => ?_) (fun c5 => ?_)
  · have h := h.1 c5
    refine lv_iconst (v := 0) hx hb d_PP_fill_41 (by decide) ?_
    exact retI (out := fun u => [e_PP a, e_Pic a Pic_width Pic_height Pic_stride, e_ar a n cI 8 u]) (u := pb) E hr hlk rfl hw h d_PP_fill_42
  · have h := h.2 c5
    refine lv_iload hx hb d_PP_fill_34 (lv_at hl 1 rfl) ?_
    refine lv_iload hx hb d_PP_fill_36 (lv_at hl 0 rfl) ?_
    refine lv_icmp_le (tgt := 43) hx hb d_PP_fill_38 (by decide) (fun c6 => ?_) (fun c6 => ?_)
    · have h := h.1 c6
      refine lv_iload hx hb d_PP_fill_43 (lv_at hl 1 rfl) ?_
      refine lv_istore (lv' := [(7, .int z1), (6, .int z2), (5, .int z1), (0, .ref (a 0)), (1, .int x1), (2, .int x2), (3, .int x3), (4, .int x4)]) hx hb d_PP_fill_45 hl (by decide) rfl (fun ls hl => ?_)
      obtain ⟨N11, h⟩ := h
      exact s_PP_fill_47 (a := a) (n := n) (tb := tb) E hr hlk  N11 pb z1 z2 z1 _ _ ls hw (lv_sub hl [3, 4, 7, 2, 1, 0] rfl) h
    · have h := h.2 c6
      refine lv_iconst (v := 0) hx hb d_PP_fill_41 (by decide) ?_
      exact retI (out := fun u => [e_PP a, e_Pic a Pic_width Pic_height Pic_stride, e_ar a n cI 8 u]) (u := pb) E hr hlk rfl hw h d_PP_fill_42
-- PicturePacker.pixel(II)I
theorem d_PP_pixel_0 : decode prog_1_method_4_code 0 = .ok (.aload_n 0, 1) := by decide +kernel
theorem d_PP_pixel_1 : decode prog_1_method_4_code 1 = .ok (.getfield 18, 3) := by decide +kernel
theorem d_PP_pixel_4 : decode prog_1_method_4_code 4 = .ok (.iload_n 1, 1) := by decide +kernel
theorem d_PP_pixel_5 : decode prog_1_method_4_code 5 = .ok (.iload_n 2, 1) := by decide +kernel
theorem d_PP_pixel_6 : decode prog_1_method_4_code 6 = .ok (.invokevirtual 65, 3) := by decide +kernel
theorem d_PP_pixel_9 : decode prog_1_method_4_code 9 = .ok (.ifCond .eq 15, 3) := by decide +kernel
theorem d_PP_pixel_12 : decode prog_1_method_4_code 12 = .ok (.aload_n 0, 1) := by decide +kernel
theorem d_PP_pixel_13 : decode prog_1_method_4_code 13 = .ok (.getfield 18, 3) := by decide +kernel
theorem d_PP_pixel_16 : decode prog_1_method_4_code 16 = .ok (.iload_n 1, 1) := by decide +kernel
theorem d_PP_pixel_17 : decode prog_1_method_4_code 17 = .ok (.iload_n 2, 1) := by decide +kernel
theorem d_PP_pixel_18 : decode prog_1_method_4_code 18 = .ok (.invokevirtual 86, 3) := by decide +kernel
theorem d_PP_pixel_21 : decode prog_1_method_4_code 21 = .ok (.goto 4, 3) := by decide +kernel
theorem d_PP_pixel_24 : decode prog_1_method_4_code 24 = .ok (.iconst (-1), 1) := by decide +kernel
theorem d_PP_pixel_25 : decode prog_1_method_4_code 25 = .ok (.ireturn, 1) := by decide +kernel
abbrev y_PP_pixel : MethodName := ⟨"PicturePacker", "pixel", "(II)I"⟩
def wp_PP_pixel (n : Nat → Nat) (Pic_width : Int32) (Pic_height : Int32) (Pic_stride : Int32) (pb : Nat → Int32) (x1 : Int32) (x2 : Int32) (post : Int32 → Unit → Prop) : Prop := wp_Pic_has n Pic_width Pic_height x1 x2 (fun r2 _ => ((r2 : Int32) = 0 → (post ((-1)) ())) ∧ (¬ ((r2 : Int32) = 0) → (wp_Pic_colourOf n Pic_stride pb x1 x2 (fun r5 _ => post r5 ()))))
set_option maxHeartbeats 2000000 in
set_option maxRecDepth 20000 in
theorem c_PP_pixel {l : Launch} {dC : Nat → ClassId} {dI : Nat → Nat → Nat} {cI : ClassId} {tb : Tbs} {a n : Nat → Nat} {Pic_width : Int32} {Pic_height : Int32} {Pic_stride : Int32} {pb : Nat → Int32} {x1 : Int32} {x2 : Int32} {post : Int32 → Unit → Prop} (h : wp_PP_pixel n Pic_width Pic_height Pic_stride pb x1 x2 post) : CtI classes dC dI cI tb l y_PP_pixel prog_1_method_4_code 3 .int ({ frames := 2, cells := 0, slots := 0, locals := 45 }) [.ref (a 0), .int x1, .int x2] [e_PP a, e_Pic a Pic_width Pic_height Pic_stride, e_ar a n cI 8 pb] (Unit) (fun _ => [e_PP a, e_Pic a Pic_width Pic_height Pic_stride, e_ar a n cI 8 pb]) post := by
  refine startI (by decide) (Nat.le_of_ble_eq_true rfl) ?_
  intro p e s m below meth c ls E hr hlk hnm hl hw
  have hl : lv_has ls 3 [(0, .ref (a 0)), (1, .int x1), (2, .int x2)] := hl
  generalize va_A [e_PP a, e_Pic a Pic_width Pic_height Pic_stride, e_ar a n cI 8 pb] s.heap.size = A at hw ⊢
  obtain ⟨hx, hb, hml, hown, hts⟩ := id E
  unfold wp_PP_pixel at h
  refine lv_aload_n hx hb d_PP_pixel_0 rfl (lv_at hl 0 rfl) ?_
  refine kget (v := .ref (a 1)) (T := F_PP) E hw in_PP rfl 0 0 rfl (by decide) tw209 rfl d_PP_pixel_1 ?_
  refine lv_iload_n hx hb d_PP_pixel_4 rfl (lv_at hl 1 rfl) ?_
  refine lv_iload_n hx hb d_PP_pixel_5 rfl (lv_at hl 2 rfl) ?_
  refine kVi (y := y_Pic_has) (ws' := fun _ => [e_PP a, e_Pic a Pic_width Pic_height Pic_stride, e_ar a n cI 8 pb]) (wr := [e_PP a, e_ar a n cI 8 pb]) (As := [.int x1, .int x2]) (rest := []) E hw (c_Pic_has (l := l) (dC := dC) (dI := dI) (cI := cI) (tb := tb) (a := a) (n := n) (Pic_width := Pic_width) (Pic_height := Pic_height) (Pic_stride := Pic_stride) (x1 := x1) (x2 := x2) h) tw229 tw230 tw231 tw34 tw232 2 (by decide) ⟨Nat.le_of_ble_eq_true rfl, Nat.le_of_ble_eq_true rfl⟩ ⟨Nat.le_of_ble_eq_true rfl, Nat.le_of_ble_eq_true rfl⟩ ⟨rfl, rfl⟩ rfl rfl 1 rfl [1] [0, 2] [0, 2, 1] rfl rfl rfl rfl (by decide) rfl (fun _ => rfl) hl.1 rfl rfl (Nat.le_of_ble_eq_true rfl) d_PP_pixel_6 (fun r2 u1 H locs h hw => ?_)
  refine lv_if_eq (tgt := 24) hx hb d_PP_pixel_9 (by decide) (fun c3 => ?_) (fun c3 => ?_)
  · have h := h.1 c3
    refine lv_iconst (v := (-1)) hx hb d_PP_pixel_24 (by decide) ?_
    exact retI (out := fun u => [e_PP a, e_Pic a Pic_width Pic_height Pic_stride, e_ar a n cI 8 pb]) (u := ()) E hr hlk rfl hw h d_PP_pixel_25
  · have h := h.2 c3
    refine lv_aload_n hx hb d_PP_pixel_12 rfl (lv_at hl 0 rfl) ?_
    refine kget (v := .ref (a 1)) (T := F_PP) E hw in_PP rfl 0 0 rfl (by decide) tw209 rfl d_PP_pixel_13 ?_
    refine lv_iload_n hx hb d_PP_pixel_16 rfl (lv_at hl 1 rfl) ?_
    refine lv_iload_n hx hb d_PP_pixel_17 rfl (lv_at hl 2 rfl) ?_
    refine kVi (y := y_Pic_colourOf) (ws' := fun _ => [e_PP a, e_Pic a Pic_width Pic_height Pic_stride, e_ar a n cI 8 pb]) (wr := [e_PP a]) (As := [.int x1, .int x2]) (rest := []) E hw (c_Pic_colourOf (l := l) (dC := dC) (dI := dI) (cI := cI) (tb := tb) (a := a) (n := n) (Pic_width := Pic_width) (Pic_height := Pic_height) (Pic_stride := Pic_stride) (pb := pb) (x1 := x1) (x2 := x2) h) tw249 tw250 tw251 tw34 tw252 2 (by decide) ⟨Nat.le_of_ble_eq_true rfl, Nat.le_of_ble_eq_true rfl⟩ ⟨Nat.le_of_ble_eq_true rfl, Nat.le_of_ble_eq_true rfl⟩ ⟨rfl, rfl⟩ rfl rfl 1 rfl [1, 2] [0] [0, 1, 2] rfl rfl rfl rfl (by decide) rfl (fun _ => rfl) hl.1 rfl rfl (Nat.le_of_ble_eq_true rfl) d_PP_pixel_18 (fun r5 u4 H locs h hw => ?_)
    refine lv_goto (tgt := 25) hx hb d_PP_pixel_21 (by decide) ?_
    exact retI (out := fun u => [e_PP a, e_Pic a Pic_width Pic_height Pic_stride, e_ar a n cI 8 pb]) (u := ()) E hr hlk rfl hw h d_PP_pixel_25
-- PicturePacker.byteAt(I)I
theorem d_PP_byteAt_0 : decode prog_1_method_6_code 0 = .ok (.iload_n 1, 1) := by decide +kernel
theorem d_PP_byteAt_1 : decode prog_1_method_6_code 1 = .ok (.ifCond .lt 38, 3) := by decide +kernel
theorem d_PP_byteAt_4 : decode prog_1_method_6_code 4 = .ok (.iload_n 1, 1) := by decide +kernel
theorem d_PP_byteAt_5 : decode prog_1_method_6_code 5 = .ok (.aload_n 0, 1) := by decide +kernel
theorem d_PP_byteAt_6 : decode prog_1_method_6_code 6 = .ok (.getfield 43, 3) := by decide +kernel
theorem d_PP_byteAt_9 : decode prog_1_method_6_code 9 = .ok (.getfield 126, 3) := by decide +kernel
theorem d_PP_byteAt_12 : decode prog_1_method_6_code 12 = .ok (.if_icmp .ge 27, 3) := by decide +kernel
theorem d_PP_byteAt_15 : decode prog_1_method_6_code 15 = .ok (.iload_n 1, 1) := by decide +kernel
theorem d_PP_byteAt_16 : decode prog_1_method_6_code 16 = .ok (.aload_n 0, 1) := by decide +kernel
theorem d_PP_byteAt_17 : decode prog_1_method_6_code 17 = .ok (.getfield 43, 3) := by decide +kernel
theorem d_PP_byteAt_20 : decode prog_1_method_6_code 20 = .ok (.getfield 129, 3) := by decide +kernel
theorem d_PP_byteAt_23 : decode prog_1_method_6_code 23 = .ok (.arraylength, 1) := by decide +kernel
theorem d_PP_byteAt_24 : decode prog_1_method_6_code 24 = .ok (.if_icmp .ge 15, 3) := by decide +kernel
theorem d_PP_byteAt_27 : decode prog_1_method_6_code 27 = .ok (.aload_n 0, 1) := by decide +kernel
theorem d_PP_byteAt_28 : decode prog_1_method_6_code 28 = .ok (.getfield 43, 3) := by decide +kernel
theorem d_PP_byteAt_31 : decode prog_1_method_6_code 31 = .ok (.getfield 129, 3) := by decide +kernel
theorem d_PP_byteAt_34 : decode prog_1_method_6_code 34 = .ok (.iload_n 1, 1) := by decide +kernel
theorem d_PP_byteAt_35 : decode prog_1_method_6_code 35 = .ok (.iaload, 1) := by decide +kernel
theorem d_PP_byteAt_36 : decode prog_1_method_6_code 36 = .ok (.goto 4, 3) := by decide +kernel
theorem d_PP_byteAt_39 : decode prog_1_method_6_code 39 = .ok (.iconst (-1), 1) := by decide +kernel
theorem d_PP_byteAt_40 : decode prog_1_method_6_code 40 = .ok (.ireturn, 1) := by decide +kernel
abbrev y_PP_byteAt : MethodName := ⟨"PicturePacker", "byteAt", "(I)I"⟩
def wp_PP_byteAt (n : Nat → Nat) (Out_size : Int32) (ob : Nat → Int32) (x1 : Int32) (post : Int32 → Unit → Prop) : Prop := ((x1 : Int32) < 0 → (post ((-1)) ())) ∧ (¬ ((x1 : Int32) < 0) → (((Out_size : Int32) ≤ x1 → (post ((-1)) ())) ∧ (¬ ((Out_size : Int32) ≤ x1) → (((nI (n 11) : Int32) ≤ x1 → (post ((-1)) ())) ∧ (¬ ((nI (n 11) : Int32) ≤ x1) → (vp_in x1 (n 11) ∧ (post (ob (x1 : Int32).toNatClampNeg) ())))))))
set_option maxHeartbeats 2000000 in
set_option maxRecDepth 20000 in
theorem c_PP_byteAt {l : Launch} {dC : Nat → ClassId} {dI : Nat → Nat → Nat} {cI : ClassId} {tb : Tbs} {a n : Nat → Nat} {Out_size : Int32} {Out_gathered : Int32} {Out_gatheredBits : Int32} {ob : Nat → Int32} {x1 : Int32} {post : Int32 → Unit → Prop} (h : wp_PP_byteAt n Out_size ob x1 post) : CtI classes dC dI cI tb l y_PP_byteAt prog_1_method_6_code 2 .int ({ frames := 0, cells := 0, slots := 0, locals := 0 }) [.ref (a 0), .int x1] [e_PP a, e_Out a Out_size Out_gathered Out_gatheredBits, e_ar a n cI 11 ob] (Unit) (fun _ => [e_PP a, e_Out a Out_size Out_gathered Out_gatheredBits, e_ar a n cI 11 ob]) post := by
  refine startI (by decide) (Nat.le_of_ble_eq_true rfl) ?_
  intro p e s m below meth c ls E hr hlk hnm hl hw
  have hl : lv_has ls 2 [(0, .ref (a 0)), (1, .int x1)] := hl
  generalize va_A [e_PP a, e_Out a Out_size Out_gathered Out_gatheredBits, e_ar a n cI 11 ob] s.heap.size = A at hw ⊢
  obtain ⟨hx, hb, hml, hown, hts⟩ := id E
  unfold wp_PP_byteAt at h
  refine lv_iload_n hx hb d_PP_byteAt_0 rfl (lv_at hl 1 rfl) ?_
  refine lv_if_lt (tgt := 39) hx hb d_PP_byteAt_1 (by decide) (fun c1 => ?_) (fun c1 => ?_)
  · have h := h.1 c1
    refine lv_iconst (v := (-1)) hx hb d_PP_byteAt_39 (by decide) ?_
    exact retI (out := fun u => [e_PP a, e_Out a Out_size Out_gathered Out_gatheredBits, e_ar a n cI 11 ob]) (u := ()) E hr hlk rfl hw h d_PP_byteAt_40
  · have h := h.2 c1
    refine lv_iload_n hx hb d_PP_byteAt_4 rfl (lv_at hl 1 rfl) ?_
    refine lv_aload_n hx hb d_PP_byteAt_5 rfl (lv_at hl 0 rfl) ?_
    refine kget (v := .ref (a 3)) (T := F_PP) E hw in_PP rfl 0 2 rfl (by decide) tw211 rfl d_PP_byteAt_6 ?_
    refine kget (v := .int Out_size) (T := F_Out) E hw in_Out rfl 1 1 rfl (by decide) tw122 rfl d_PP_byteAt_9 ?_
    refine lv_icmp_ge (tgt := 39) hx hb d_PP_byteAt_12 (by decide) (fun c2 => ?_) (fun c2 => ?_)
    · have h := h.1 c2
      refine lv_iconst (v := (-1)) hx hb d_PP_byteAt_39 (by decide) ?_
      exact retI (out := fun u => [e_PP a, e_Out a Out_size Out_gathered Out_gatheredBits, e_ar a n cI 11 ob]) (u := ()) E hr hlk rfl hw h d_PP_byteAt_40
    · have h := h.2 c2
      refine lv_iload_n hx hb d_PP_byteAt_15 rfl (lv_at hl 1 rfl) ?_
      refine lv_aload_n hx hb d_PP_byteAt_16 rfl (lv_at hl 0 rfl) ?_
      refine kget (v := .ref (a 3)) (T := F_PP) E hw in_PP rfl 0 2 rfl (by decide) tw211 rfl d_PP_byteAt_17 ?_
      refine kget (v := .ref (a 11)) (T := F_Out) E hw in_Out rfl 1 0 rfl (by decide) tw119 rfl d_PP_byteAt_20 ?_
      refine kalen E hw 2 rfl d_PP_byteAt_23 ?_
      refine lv_icmp_ge (tgt := 39) hx hb d_PP_byteAt_24 (by decide) (fun c3 => ?_) (fun c3 => ?_)
      · have h := h.1 c3
        refine lv_iconst (v := (-1)) hx hb d_PP_byteAt_39 (by decide) ?_
        exact retI (out := fun u => [e_PP a, e_Out a Out_size Out_gathered Out_gatheredBits, e_ar a n cI 11 ob]) (u := ()) E hr hlk rfl hw h d_PP_byteAt_40
      · have h := h.2 c3
        refine lv_aload_n hx hb d_PP_byteAt_27 rfl (lv_at hl 0 rfl) ?_
        refine kget (v := .ref (a 3)) (T := F_PP) E hw in_PP rfl 0 2 rfl (by decide) tw211 rfl d_PP_byteAt_28 ?_
        refine kget (v := .ref (a 11)) (T := F_Out) E hw in_Out rfl 1 0 rfl (by decide) tw119 rfl d_PP_byteAt_31 ?_
        refine lv_iload_n hx hb d_PP_byteAt_34 rfl (lv_at hl 1 rfl) ?_
        obtain ⟨b4, h⟩ := h
        refine kald E hw 2 rfl b4 d_PP_byteAt_35 ?_
        refine lv_goto (tgt := 40) hx hb d_PP_byteAt_36 (by decide) ?_
        exact retI (out := fun u => [e_PP a, e_Out a Out_size Out_gathered Out_gatheredBits, e_ar a n cI 11 ob]) (u := ()) E hr hlk rfl hw h d_PP_byteAt_40
-- PicturePacker.filter(I)I
theorem d_PP_filter_0 : decode prog_1_method_7_code 0 = .ok (.iload_n 1, 1) := by decide +kernel
theorem d_PP_filter_1 : decode prog_1_method_7_code 1 = .ok (.ifCond .lt 27, 3) := by decide +kernel
theorem d_PP_filter_4 : decode prog_1_method_7_code 4 = .ok (.iload_n 1, 1) := by decide +kernel
theorem d_PP_filter_5 : decode prog_1_method_7_code 5 = .ok (.aload_n 0, 1) := by decide +kernel
theorem d_PP_filter_6 : decode prog_1_method_7_code 6 = .ok (.getfield 27, 3) := by decide +kernel
theorem d_PP_filter_9 : decode prog_1_method_7_code 9 = .ok (.getfield 130, 3) := by decide +kernel
theorem d_PP_filter_12 : decode prog_1_method_7_code 12 = .ok (.arraylength, 1) := by decide +kernel
theorem d_PP_filter_13 : decode prog_1_method_7_code 13 = .ok (.if_icmp .ge 15, 3) := by decide +kernel
theorem d_PP_filter_16 : decode prog_1_method_7_code 16 = .ok (.aload_n 0, 1) := by decide +kernel
theorem d_PP_filter_17 : decode prog_1_method_7_code 17 = .ok (.getfield 27, 3) := by decide +kernel
theorem d_PP_filter_20 : decode prog_1_method_7_code 20 = .ok (.getfield 130, 3) := by decide +kernel
theorem d_PP_filter_23 : decode prog_1_method_7_code 23 = .ok (.iload_n 1, 1) := by decide +kernel
theorem d_PP_filter_24 : decode prog_1_method_7_code 24 = .ok (.iaload, 1) := by decide +kernel
theorem d_PP_filter_25 : decode prog_1_method_7_code 25 = .ok (.goto 4, 3) := by decide +kernel
theorem d_PP_filter_28 : decode prog_1_method_7_code 28 = .ok (.iconst (-1), 1) := by decide +kernel
theorem d_PP_filter_29 : decode prog_1_method_7_code 29 = .ok (.ireturn, 1) := by decide +kernel
abbrev y_PP_filter : MethodName := ⟨"PicturePacker", "filter", "(I)I"⟩
def wp_PP_filter (n : Nat → Nat) (fl : Nat → Int32) (x1 : Int32) (post : Int32 → Unit → Prop) : Prop := ((x1 : Int32) < 0 → (post ((-1)) ())) ∧ (¬ ((x1 : Int32) < 0) → (((nI (n 10) : Int32) ≤ x1 → (post ((-1)) ())) ∧ (¬ ((nI (n 10) : Int32) ≤ x1) → (vp_in x1 (n 10) ∧ (post (fl (x1 : Int32).toNatClampNeg) ())))))
set_option maxHeartbeats 2000000 in
set_option maxRecDepth 20000 in
theorem c_PP_filter {l : Launch} {dC : Nat → ClassId} {dI : Nat → Nat → Nat} {cI : ClassId} {tb : Tbs} {a n : Nat → Nat} {Rows_rowLength : Int32} {fl : Nat → Int32} {x1 : Int32} {post : Int32 → Unit → Prop} (h : wp_PP_filter n fl x1 post) : CtI classes dC dI cI tb l y_PP_filter prog_1_method_7_code 2 .int ({ frames := 0, cells := 0, slots := 0, locals := 0 }) [.ref (a 0), .int x1] [e_PP a, e_Rows a Rows_rowLength, e_ar a n cI 10 fl] (Unit) (fun _ => [e_PP a, e_Rows a Rows_rowLength, e_ar a n cI 10 fl]) post := by
  refine startI (by decide) (Nat.le_of_ble_eq_true rfl) ?_
  intro p e s m below meth c ls E hr hlk hnm hl hw
  have hl : lv_has ls 2 [(0, .ref (a 0)), (1, .int x1)] := hl
  generalize va_A [e_PP a, e_Rows a Rows_rowLength, e_ar a n cI 10 fl] s.heap.size = A at hw ⊢
  obtain ⟨hx, hb, hml, hown, hts⟩ := id E
  unfold wp_PP_filter at h
  refine lv_iload_n hx hb d_PP_filter_0 rfl (lv_at hl 1 rfl) ?_
  refine lv_if_lt (tgt := 28) hx hb d_PP_filter_1 (by decide) (fun c1 => ?_) (fun c1 => ?_)
  · have h := h.1 c1
    refine lv_iconst (v := (-1)) hx hb d_PP_filter_28 (by decide) ?_
    exact retI (out := fun u => [e_PP a, e_Rows a Rows_rowLength, e_ar a n cI 10 fl]) (u := ()) E hr hlk rfl hw h d_PP_filter_29
  · have h := h.2 c1
    refine lv_iload_n hx hb d_PP_filter_4 rfl (lv_at hl 1 rfl) ?_
    refine lv_aload_n hx hb d_PP_filter_5 rfl (lv_at hl 0 rfl) ?_
    refine kget (v := .ref (a 2)) (T := F_PP) E hw in_PP rfl 0 1 rfl (by decide) tw210 rfl d_PP_filter_6 ?_
    refine kget (v := .ref (a 10)) (T := F_Rows) E hw in_Rows rfl 1 1 rfl (by decide) tw96 rfl d_PP_filter_9 ?_
    refine kalen E hw 2 rfl d_PP_filter_12 ?_
    refine lv_icmp_ge (tgt := 28) hx hb d_PP_filter_13 (by decide) (fun c2 => ?_) (fun c2 => ?_)
    · have h := h.1 c2
      refine lv_iconst (v := (-1)) hx hb d_PP_filter_28 (by decide) ?_
      exact retI (out := fun u => [e_PP a, e_Rows a Rows_rowLength, e_ar a n cI 10 fl]) (u := ()) E hr hlk rfl hw h d_PP_filter_29
    · have h := h.2 c2
      refine lv_aload_n hx hb d_PP_filter_16 rfl (lv_at hl 0 rfl) ?_
      refine kget (v := .ref (a 2)) (T := F_PP) E hw in_PP rfl 0 1 rfl (by decide) tw210 rfl d_PP_filter_17 ?_
      refine kget (v := .ref (a 10)) (T := F_Rows) E hw in_Rows rfl 1 1 rfl (by decide) tw96 rfl d_PP_filter_20 ?_
      refine lv_iload_n hx hb d_PP_filter_23 rfl (lv_at hl 1 rfl) ?_
      obtain ⟨b3, h⟩ := h
      refine kald E hw 2 rfl b3 d_PP_filter_24 ?_
      refine lv_goto (tgt := 29) hx hb d_PP_filter_25 (by decide) ?_
      exact retI (out := fun u => [e_PP a, e_Rows a Rows_rowLength, e_ar a n cI 10 fl]) (u := ()) E hr hlk rfl hw h d_PP_filter_29
-- PicturePacker.count(I)I
theorem d_PP_count_0 : decode prog_1_method_8_code 0 = .ok (.iload_n 1, 1) := by decide +kernel
theorem d_PP_count_1 : decode prog_1_method_8_code 1 = .ok (.tableswitch 87 0 5 #[39, 47, 55, 63, 71, 79], 39) := by decide +kernel
theorem d_PP_count_40 : decode prog_1_method_8_code 40 = .ok (.aload_n 0, 1) := by decide +kernel
theorem d_PP_count_41 : decode prog_1_method_8_code 41 = .ok (.getfield 43, 3) := by decide +kernel
theorem d_PP_count_44 : decode prog_1_method_8_code 44 = .ok (.getfield 126, 3) := by decide +kernel
theorem d_PP_count_47 : decode prog_1_method_8_code 47 = .ok (.ireturn, 1) := by decide +kernel
theorem d_PP_count_48 : decode prog_1_method_8_code 48 = .ok (.aload_n 0, 1) := by decide +kernel
theorem d_PP_count_49 : decode prog_1_method_8_code 49 = .ok (.getfield 61, 3) := by decide +kernel
theorem d_PP_count_52 : decode prog_1_method_8_code 52 = .ok (.getfield 133, 3) := by decide +kernel
theorem d_PP_count_55 : decode prog_1_method_8_code 55 = .ok (.ireturn, 1) := by decide +kernel
theorem d_PP_count_56 : decode prog_1_method_8_code 56 = .ok (.aload_n 0, 1) := by decide +kernel
theorem d_PP_count_57 : decode prog_1_method_8_code 57 = .ok (.getfield 61, 3) := by decide +kernel
theorem d_PP_count_60 : decode prog_1_method_8_code 60 = .ok (.getfield 136, 3) := by decide +kernel
theorem d_PP_count_63 : decode prog_1_method_8_code 63 = .ok (.ireturn, 1) := by decide +kernel
theorem d_PP_count_64 : decode prog_1_method_8_code 64 = .ok (.aload_n 0, 1) := by decide +kernel
theorem d_PP_count_65 : decode prog_1_method_8_code 65 = .ok (.getfield 61, 3) := by decide +kernel
theorem d_PP_count_68 : decode prog_1_method_8_code 68 = .ok (.getfield 139, 3) := by decide +kernel
theorem d_PP_count_71 : decode prog_1_method_8_code 71 = .ok (.ireturn, 1) := by decide +kernel
theorem d_PP_count_72 : decode prog_1_method_8_code 72 = .ok (.aload_n 0, 1) := by decide +kernel
theorem d_PP_count_73 : decode prog_1_method_8_code 73 = .ok (.getfield 18, 3) := by decide +kernel
theorem d_PP_count_76 : decode prog_1_method_8_code 76 = .ok (.getfield 79, 3) := by decide +kernel
theorem d_PP_count_79 : decode prog_1_method_8_code 79 = .ok (.ireturn, 1) := by decide +kernel
theorem d_PP_count_80 : decode prog_1_method_8_code 80 = .ok (.aload_n 0, 1) := by decide +kernel
theorem d_PP_count_81 : decode prog_1_method_8_code 81 = .ok (.getfield 18, 3) := by decide +kernel
theorem d_PP_count_84 : decode prog_1_method_8_code 84 = .ok (.getfield 142, 3) := by decide +kernel
theorem d_PP_count_87 : decode prog_1_method_8_code 87 = .ok (.ireturn, 1) := by decide +kernel
theorem d_PP_count_88 : decode prog_1_method_8_code 88 = .ok (.iconst (-1), 1) := by decide +kernel
theorem d_PP_count_89 : decode prog_1_method_8_code 89 = .ok (.ireturn, 1) := by decide +kernel
abbrev y_PP_count : MethodName := ⟨"PicturePacker", "count", "(I)I"⟩
def wp_PP_count (n : Nat → Nat) (Pic_width : Int32) (Pic_height : Int32) (Out_size : Int32) (Pak_singles : Int32) (Pak_runs : Int32) (Pak_longest : Int32) (x1 : Int32) (post : Int32 → Unit → Prop) : Prop := ((x1 : Int32) = 0 → (post Out_size ())) ∧ ((x1 : Int32) = 1 → (post Pak_singles ())) ∧ ((x1 : Int32) = 2 → (post Pak_runs ())) ∧ ((x1 : Int32) = 3 → (post Pak_longest ())) ∧ ((x1 : Int32) = 4 → (post Pic_width ())) ∧ ((x1 : Int32) = 5 → (post Pic_height ())) ∧ (¬ (x1 : Int32) = 0 → ¬ (x1 : Int32) = 1 → ¬ (x1 : Int32) = 2 → ¬ (x1 : Int32) = 3 → ¬ (x1 : Int32) = 4 → ¬ (x1 : Int32) = 5 → (post ((-1)) ()))
set_option maxHeartbeats 2000000 in
set_option maxRecDepth 20000 in
theorem c_PP_count {l : Launch} {dC : Nat → ClassId} {dI : Nat → Nat → Nat} {cI : ClassId} {tb : Tbs} {a n : Nat → Nat} {Pic_width : Int32} {Pic_height : Int32} {Pic_stride : Int32} {Out_size : Int32} {Out_gathered : Int32} {Out_gatheredBits : Int32} {Pak_singles : Int32} {Pak_runs : Int32} {Pak_longest : Int32} {x1 : Int32} {post : Int32 → Unit → Prop} (h : wp_PP_count n Pic_width Pic_height Out_size Pak_singles Pak_runs Pak_longest x1 post) : CtI classes dC dI cI tb l y_PP_count prog_1_method_8_code 2 .int ({ frames := 0, cells := 0, slots := 0, locals := 0 }) [.ref (a 0), .int x1] [e_PP a, e_Pic a Pic_width Pic_height Pic_stride, e_Out a Out_size Out_gathered Out_gatheredBits, e_Pak a Pak_singles Pak_runs Pak_longest] (Unit) (fun _ => [e_PP a, e_Pic a Pic_width Pic_height Pic_stride, e_Out a Out_size Out_gathered Out_gatheredBits, e_Pak a Pak_singles Pak_runs Pak_longest]) post := by
  refine startI (by decide) (Nat.le_of_ble_eq_true rfl) ?_
  intro p e s m below meth c ls E hr hlk hnm hl hw
  have hl : lv_has ls 2 [(0, .ref (a 0)), (1, .int x1)] := hl
  generalize va_A [e_PP a, e_Pic a Pic_width Pic_height Pic_stride, e_Out a Out_size Out_gathered Out_gatheredBits, e_Pak a Pak_singles Pak_runs Pak_longest] s.heap.size = A at hw ⊢
  obtain ⟨hx, hb, hml, hown, hts⟩ := id E
  unfold wp_PP_count at h
  refine lv_iload_n hx hb d_PP_count_0 rfl (lv_at hl 1 rfl) ?_
  by_cases c1 : (x1 : Int32) = 0
  · have h := h.1 c1
    refine lv_tableIn (tgt := 40) (off := 39) hx hb d_PP_count_1 (by rw [c1]; decide) (by rw [c1]; decide) (by rw [c1]; decide) (by decide) ?_
    refine lv_aload_n hx hb d_PP_count_40 rfl (lv_at hl 0 rfl) ?_
    refine kget (v := .ref (a 3)) (T := F_PP) E hw in_PP rfl 0 2 rfl (by decide) tw211 rfl d_PP_count_41 ?_
    refine kget (v := .int Out_size) (T := F_Out) E hw in_Out rfl 2 1 rfl (by decide) tw122 rfl d_PP_count_44 ?_
    exact retI (out := fun u => [e_PP a, e_Pic a Pic_width Pic_height Pic_stride, e_Out a Out_size Out_gathered Out_gatheredBits, e_Pak a Pak_singles Pak_runs Pak_longest]) (u := ()) E hr hlk rfl hw h d_PP_count_47
  · skip
    by_cases c2 : (x1 : Int32) = 1
    · have h := h.2.1 c2
      refine lv_tableIn (tgt := 48) (off := 47) hx hb d_PP_count_1 (by rw [c2]; decide) (by rw [c2]; decide) (by rw [c2]; decide) (by decide) ?_
      refine lv_aload_n hx hb d_PP_count_48 rfl (lv_at hl 0 rfl) ?_
      refine kget (v := .ref (a 5)) (T := F_PP) E hw in_PP rfl 0 4 rfl (by decide) tw213 rfl d_PP_count_49 ?_
      refine kget (v := .int Pak_singles) (T := F_Pak) E hw in_Pak rfl 3 3 rfl (by decide) tw191 rfl d_PP_count_52 ?_
      exact retI (out := fun u => [e_PP a, e_Pic a Pic_width Pic_height Pic_stride, e_Out a Out_size Out_gathered Out_gatheredBits, e_Pak a Pak_singles Pak_runs Pak_longest]) (u := ()) E hr hlk rfl hw h d_PP_count_55
    · skip
      by_cases c3 : (x1 : Int32) = 2
      · have h := h.2.2.1 c3
        refine lv_tableIn (tgt := 56) (off := 55) hx hb d_PP_count_1 (by rw [c3]; decide) (by rw [c3]; decide) (by rw [c3]; decide) (by decide) ?_
        refine lv_aload_n hx hb d_PP_count_56 rfl (lv_at hl 0 rfl) ?_
        refine kget (v := .ref (a 5)) (T := F_PP) E hw in_PP rfl 0 4 rfl (by decide) tw213 rfl d_PP_count_57 ?_
        refine kget (v := .int Pak_runs) (T := F_Pak) E hw in_Pak rfl 3 4 rfl (by decide) tw193 rfl d_PP_count_60 ?_
        exact retI (out := fun u => [e_PP a, e_Pic a Pic_width Pic_height Pic_stride, e_Out a Out_size Out_gathered Out_gatheredBits, e_Pak a Pak_singles Pak_runs Pak_longest]) (u := ()) E hr hlk rfl hw h d_PP_count_63
      · skip
        by_cases c4 : (x1 : Int32) = 3
        · have h := h.2.2.2.1 c4
          refine lv_tableIn (tgt := 64) (off := 63) hx hb d_PP_count_1 (by rw [c4]; decide) (by rw [c4]; decide) (by rw [c4]; decide) (by decide) ?_
          refine lv_aload_n hx hb d_PP_count_64 rfl (lv_at hl 0 rfl) ?_
          refine kget (v := .ref (a 5)) (T := F_PP) E hw in_PP rfl 0 4 rfl (by decide) tw213 rfl d_PP_count_65 ?_
          refine kget (v := .int Pak_longest) (T := F_Pak) E hw in_Pak rfl 3 5 rfl (by decide) tw195 rfl d_PP_count_68 ?_
          exact retI (out := fun u => [e_PP a, e_Pic a Pic_width Pic_height Pic_stride, e_Out a Out_size Out_gathered Out_gatheredBits, e_Pak a Pak_singles Pak_runs Pak_longest]) (u := ()) E hr hlk rfl hw h d_PP_count_71
        · skip
          by_cases c5 : (x1 : Int32) = 4
          · have h := h.2.2.2.2.1 c5
            refine lv_tableIn (tgt := 72) (off := 71) hx hb d_PP_count_1 (by rw [c5]; decide) (by rw [c5]; decide) (by rw [c5]; decide) (by decide) ?_
            refine lv_aload_n hx hb d_PP_count_72 rfl (lv_at hl 0 rfl) ?_
            refine kget (v := .ref (a 1)) (T := F_PP) E hw in_PP rfl 0 0 rfl (by decide) tw209 rfl d_PP_count_73 ?_
            refine kget (v := .int Pic_width) (T := F_Pic) E hw in_Pic rfl 1 0 rfl (by decide) tw68 rfl d_PP_count_76 ?_
            exact retI (out := fun u => [e_PP a, e_Pic a Pic_width Pic_height Pic_stride, e_Out a Out_size Out_gathered Out_gatheredBits, e_Pak a Pak_singles Pak_runs Pak_longest]) (u := ()) E hr hlk rfl hw h d_PP_count_79
          · skip
            by_cases c6 : (x1 : Int32) = 5
            · have h := h.2.2.2.2.2.1 c6
              refine lv_tableIn (tgt := 80) (off := 79) hx hb d_PP_count_1 (by rw [c6]; decide) (by rw [c6]; decide) (by rw [c6]; decide) (by decide) ?_
              refine lv_aload_n hx hb d_PP_count_80 rfl (lv_at hl 0 rfl) ?_
              refine kget (v := .ref (a 1)) (T := F_PP) E hw in_PP rfl 0 0 rfl (by decide) tw209 rfl d_PP_count_81 ?_
              refine kget (v := .int Pic_height) (T := F_Pic) E hw in_Pic rfl 1 1 rfl (by decide) tw71 rfl d_PP_count_84 ?_
              exact retI (out := fun u => [e_PP a, e_Pic a Pic_width Pic_height Pic_stride, e_Out a Out_size Out_gathered Out_gatheredBits, e_Pak a Pak_singles Pak_runs Pak_longest]) (u := ()) E hr hlk rfl hw h d_PP_count_87
            · skip
              have h := h.2.2.2.2.2.2 c1 c2 c3 c4 c5 c6
              have qc1 := lv_neT c1 (a := 0) (by decide)
              have qc2 := lv_neT c2 (a := 1) (by decide)
              have qc3 := lv_neT c3 (a := 2) (by decide)
              have qc4 := lv_neT c4 (a := 3) (by decide)
              have qc5 := lv_neT c5 (a := 4) (by decide)
              have qc6 := lv_neT c6 (a := 5) (by decide)
              refine lv_tableOut (tgt := 88) hx hb d_PP_count_1 (by omega) (by decide) ?_
              refine lv_iconst (v := (-1)) hx hb d_PP_count_88 (by decide) ?_
              exact retI (out := fun u => [e_PP a, e_Pic a Pic_width Pic_height Pic_stride, e_Out a Out_size Out_gathered Out_gatheredBits, e_Pak a Pak_singles Pak_runs Pak_longest]) (u := ()) E hr hlk rfl hw h d_PP_count_89
-- PicturePacker.addHeader()V
theorem d_PP_addHeader_0 : decode prog_1_method_10_code 0 = .ok (.aload_n 0, 1) := by decide +kernel
theorem d_PP_addHeader_1 : decode prog_1_method_10_code 1 = .ok (.getfield 52, 3) := by decide +kernel
theorem d_PP_addHeader_4 : decode prog_1_method_10_code 4 = .ok (.ldc 145, 2) := by decide +kernel
theorem d_PP_addHeader_6 : decode prog_1_method_10_code 6 = .ok (.invokevirtual 106, 3) := by decide +kernel
theorem d_PP_addHeader_9 : decode prog_1_method_10_code 9 = .ok (.aload_n 0, 1) := by decide +kernel
theorem d_PP_addHeader_10 : decode prog_1_method_10_code 10 = .ok (.getfield 43, 3) := by decide +kernel
theorem d_PP_addHeader_13 : decode prog_1_method_10_code 13 = .ok (.aload_n 0, 1) := by decide +kernel
theorem d_PP_addHeader_14 : decode prog_1_method_10_code 14 = .ok (.getfield 18, 3) := by decide +kernel
theorem d_PP_addHeader_17 : decode prog_1_method_10_code 17 = .ok (.getfield 79, 3) := by decide +kernel
theorem d_PP_addHeader_20 : decode prog_1_method_10_code 20 = .ok (.invokevirtual 119, 3) := by decide +kernel
theorem d_PP_addHeader_23 : decode prog_1_method_10_code 23 = .ok (.aload_n 0, 1) := by decide +kernel
theorem d_PP_addHeader_24 : decode prog_1_method_10_code 24 = .ok (.getfield 43, 3) := by decide +kernel
theorem d_PP_addHeader_27 : decode prog_1_method_10_code 27 = .ok (.aload_n 0, 1) := by decide +kernel
theorem d_PP_addHeader_28 : decode prog_1_method_10_code 28 = .ok (.getfield 18, 3) := by decide +kernel
theorem d_PP_addHeader_31 : decode prog_1_method_10_code 31 = .ok (.getfield 142, 3) := by decide +kernel
theorem d_PP_addHeader_34 : decode prog_1_method_10_code 34 = .ok (.invokevirtual 119, 3) := by decide +kernel
theorem d_PP_addHeader_37 : decode prog_1_method_10_code 37 = .ok (.aload_n 0, 1) := by decide +kernel
theorem d_PP_addHeader_38 : decode prog_1_method_10_code 38 = .ok (.getfield 43, 3) := by decide +kernel
theorem d_PP_addHeader_41 : decode prog_1_method_10_code 41 = .ok (.getstatic 146, 3) := by decide +kernel
theorem d_PP_addHeader_44 : decode prog_1_method_10_code 44 = .ok (.invokevirtual 98, 3) := by decide +kernel
theorem d_PP_addHeader_47 : decode prog_1_method_10_code 47 = .ok (.aload_n 0, 1) := by decide +kernel
theorem d_PP_addHeader_48 : decode prog_1_method_10_code 48 = .ok (.getfield 52, 3) := by decide +kernel
theorem d_PP_addHeader_51 : decode prog_1_method_10_code 51 = .ok (.invokevirtual 122, 3) := by decide +kernel
theorem d_PP_addHeader_54 : decode prog_1_method_10_code 54 = .ok (.return_, 1) := by decide +kernel
abbrev y_PP_addHeader : MethodName := ⟨"PicturePacker", "addHeader", "()V"⟩
def wp_PP_addHeader (n : Nat → Nat) (tb : Tbs) (Pic_width : Int32) (Pic_height : Int32) (Out_size : Int32) (Chk_start : Int32) (ob : Nat → Int32) (ct : Nat → Int32) (post : Int32 × Int32 × (Nat → Int32) → Prop) : Prop := wp_Chk_open n Out_size Chk_start ob 1229472850 (fun u1 => wp_Out_addNumber n u1.1 u1.2.2 Pic_width (fun u3 => wp_Out_addNumber n u3.1 u3.2 Pic_height (fun u5 => wp_Out_addAll n tb 1 u5.1 u5.2 (fun u7 => wp_Chk_close n u7.1 u1.2.1 u7.2 ct (fun u9 => post (u9.1, u1.2.1, u9.2))))))
set_option maxHeartbeats 2000000 in
set_option maxRecDepth 20000 in
theorem c_PP_addHeader {l : Launch} {dC : Nat → ClassId} {dI : Nat → Nat → Nat} {cI : ClassId} {tb : Tbs} {a n : Nat → Nat} {Pic_width : Int32} {Pic_height : Int32} {Pic_stride : Int32} {Out_size : Int32} {Out_gathered : Int32} {Out_gatheredBits : Int32} {Chk_start : Int32} {ob : Nat → Int32} {ct : Nat → Int32} {post : Int32 × Int32 × (Nat → Int32) → Prop} (h : wp_PP_addHeader n tb Pic_width Pic_height Out_size Chk_start ob ct post) : CtV classes dC dI cI tb l y_PP_addHeader prog_1_method_10_code 1 ({ frames := 3, cells := 0, slots := 0, locals := 65 }) [.ref (a 0)] [e_PP a, e_Pic a Pic_width Pic_height Pic_stride, e_Out a Out_size Out_gathered Out_gatheredBits, e_Chk a Chk_start, e_ar a n cI 11 ob, e_ar a n cI 12 ct] (Int32 × Int32 × (Nat → Int32)) (fun u => [e_PP a, e_Pic a Pic_width Pic_height Pic_stride, e_Out a u.1 Out_gathered Out_gatheredBits, e_Chk a u.2.1, e_ar a n cI 11 u.2.2, e_ar a n cI 12 ct]) post := by
  refine startV (by decide) (Nat.le_of_ble_eq_true rfl) ?_
  intro p e s m below meth c ls E hr hlk hnm hl hw
  have hl : lv_has ls 1 [(0, .ref (a 0))] := hl
  generalize va_A [e_PP a, e_Pic a Pic_width Pic_height Pic_stride, e_Out a Out_size Out_gathered Out_gatheredBits, e_Chk a Chk_start, e_ar a n cI 11 ob, e_ar a n cI 12 ct] s.heap.size = A at hw ⊢
  obtain ⟨hx, hb, hml, hown, hts⟩ := id E
  unfold wp_PP_addHeader at h
  refine lv_aload_n hx hb d_PP_addHeader_0 rfl (lv_at hl 0 rfl) ?_
  refine kget (v := .ref (a 4)) (T := F_PP) E hw in_PP rfl 0 3 rfl (by decide) tw212 rfl d_PP_addHeader_1 ?_
  refine lv_ldc (v := 1229472850) hx hb hown (hts _ tw306) d_PP_addHeader_4 ?_
  refine kVv (y := y_Chk_open) (ws' := fun u1 => [e_PP a, e_Pic a Pic_width Pic_height Pic_stride, e_Out a u1.1 Out_gathered Out_gatheredBits, e_Chk a u1.2.1, e_ar a n cI 11 u1.2.2, e_ar a n cI 12 ct]) (wr := [e_PP a, e_Pic a Pic_width Pic_height Pic_stride, e_ar a n cI 12 ct]) (As := [.int 1229472850]) (rest := []) E hw (c_Chk_open (l := l) (dC := dC) (dI := dI) (cI := cI) (tb := tb) (a := a) (n := n) (Out_size := Out_size) (Out_gathered := Out_gathered) (Out_gatheredBits := Out_gatheredBits) (Chk_start := Chk_start) (ob := ob) (x1 := 1229472850) h) tw307 tw308 tw309 tw39 tw310 1 (by decide) ⟨Nat.le_of_ble_eq_true rfl, Nat.le_of_ble_eq_true rfl⟩ ⟨Nat.le_of_ble_eq_true rfl, Nat.le_of_ble_eq_true rfl⟩ ⟨rfl, rfl⟩ rfl rfl 3 rfl [2, 3, 4] [0, 1, 5] [0, 1, 3, 4, 5, 2] rfl rfl rfl rfl (by decide) rfl (fun _ => rfl) hl.1 rfl rfl (Nat.le_of_ble_eq_true rfl) d_PP_addHeader_6 (fun u1 H locs h hw => ?_)
  refine lv_aload_n hx hb d_PP_addHeader_9 rfl (lv_at hl 0 rfl) ?_
  refine kget (v := .ref (a 3)) (T := F_PP) E hw in_PP rfl 0 2 rfl (by decide) tw211 rfl d_PP_addHeader_10 ?_
  refine lv_aload_n hx hb d_PP_addHeader_13 rfl (lv_at hl 0 rfl) ?_
  refine kget (v := .ref (a 1)) (T := F_PP) E hw in_PP rfl 0 0 rfl (by decide) tw209 rfl d_PP_addHeader_14 ?_
  refine kget (v := .int Pic_width) (T := F_Pic) E hw in_Pic rfl 1 0 rfl (by decide) tw68 rfl d_PP_addHeader_17 ?_
  refine kVv (y := y_Out_addNumber) (ws' := fun u3 => [e_PP a, e_Pic a Pic_width Pic_height Pic_stride, e_Out a u3.1 Out_gathered Out_gatheredBits, e_Chk a u1.2.1, e_ar a n cI 11 u3.2, e_ar a n cI 12 ct]) (wr := [e_PP a, e_Pic a Pic_width Pic_height Pic_stride, e_Chk a u1.2.1, e_ar a n cI 12 ct]) (As := [.int Pic_width]) (rest := []) E hw (c_Out_addNumber (l := l) (dC := dC) (dI := dI) (cI := cI) (tb := tb) (a := a) (n := n) (Out_size := u1.1) (Out_gathered := Out_gathered) (Out_gatheredBits := Out_gatheredBits) (ob := u1.2.2) (x1 := Pic_width) h) tw315 tw312 tw313 tw38 tw314 1 (by decide) ⟨Nat.le_of_ble_eq_true rfl, Nat.le_of_ble_eq_true rfl⟩ ⟨Nat.le_of_ble_eq_true rfl, Nat.le_of_ble_eq_true rfl⟩ ⟨rfl, rfl⟩ rfl rfl 2 rfl [2, 4] [0, 1, 3, 5] [0, 1, 4, 2, 5, 3] rfl rfl rfl rfl (by decide) rfl (fun _ => rfl) hl.1 rfl rfl (Nat.le_of_ble_eq_true rfl) d_PP_addHeader_20 (fun u3 H locs h hw => ?_)
  refine lv_aload_n hx hb d_PP_addHeader_23 rfl (lv_at hl 0 rfl) ?_
  refine kget (v := .ref (a 3)) (T := F_PP) E hw in_PP rfl 0 2 rfl (by decide) tw211 rfl d_PP_addHeader_24 ?_
  refine lv_aload_n hx hb d_PP_addHeader_27 rfl (lv_at hl 0 rfl) ?_
  refine kget (v := .ref (a 1)) (T := F_PP) E hw in_PP rfl 0 0 rfl (by decide) tw209 rfl d_PP_addHeader_28 ?_
  refine kget (v := .int Pic_height) (T := F_Pic) E hw in_Pic rfl 1 1 rfl (by decide) tw71 rfl d_PP_addHeader_31 ?_
  refine kVv (y := y_Out_addNumber) (ws' := fun u5 => [e_PP a, e_Pic a Pic_width Pic_height Pic_stride, e_Out a u5.1 Out_gathered Out_gatheredBits, e_Chk a u1.2.1, e_ar a n cI 11 u5.2, e_ar a n cI 12 ct]) (wr := [e_PP a, e_Pic a Pic_width Pic_height Pic_stride, e_Chk a u1.2.1, e_ar a n cI 12 ct]) (As := [.int Pic_height]) (rest := []) E hw (c_Out_addNumber (l := l) (dC := dC) (dI := dI) (cI := cI) (tb := tb) (a := a) (n := n) (Out_size := u3.1) (Out_gathered := Out_gathered) (Out_gatheredBits := Out_gatheredBits) (ob := u3.2) (x1 := Pic_height) h) tw315 tw312 tw313 tw38 tw314 1 (by decide) ⟨Nat.le_of_ble_eq_true rfl, Nat.le_of_ble_eq_true rfl⟩ ⟨Nat.le_of_ble_eq_true rfl, Nat.le_of_ble_eq_true rfl⟩ ⟨rfl, rfl⟩ rfl rfl 2 rfl [2, 4] [0, 1, 3, 5] [0, 1, 4, 2, 5, 3] rfl rfl rfl rfl (by decide) rfl (fun _ => rfl) hl.1 rfl rfl (Nat.le_of_ble_eq_true rfl) d_PP_addHeader_34 (fun u5 H locs h hw => ?_)
  refine lv_aload_n hx hb d_PP_addHeader_37 rfl (lv_at hl 0 rfl) ?_
  refine kget (v := .ref (a 3)) (T := F_PP) E hw in_PP rfl 0 2 rfl (by decide) tw211 rfl d_PP_addHeader_38 ?_
  refine kgs1 E hw tw316 d_PP_addHeader_41 ?_
  refine kVv (y := y_Out_addAll) (ws' := fun u7 => [e_PP a, e_Pic a Pic_width Pic_height Pic_stride, e_Out a u7.1 Out_gathered Out_gatheredBits, e_Chk a u1.2.1, e_ar a n cI 11 u7.2, e_ar a n cI 12 ct]) (wr := [e_PP a, e_Pic a Pic_width Pic_height Pic_stride, e_Chk a u1.2.1, e_ar a n cI 12 ct]) (As := [.ref (tb 1).1]) (rest := []) E hw (c_Out_addAll (l := l) (dC := dC) (dI := dI) (cI := cI) (tb := tb) (a := a) (n := n) (Out_size := u5.1) (Out_gathered := Out_gathered) (Out_gatheredBits := Out_gatheredBits) (ob := u5.2)  (K := 1) (hK2 := (by decide)) h) tw294 tw295 tw296 tw38 tw297 1 (by decide) ⟨Nat.le_of_ble_eq_true rfl, Nat.le_of_ble_eq_true rfl⟩ ⟨Nat.le_of_ble_eq_true rfl, Nat.le_of_ble_eq_true rfl⟩ ⟨rfl, rfl⟩ rfl rfl 2 rfl [2, 4] [0, 1, 3, 5] [0, 1, 4, 2, 5, 3] rfl rfl rfl rfl (by decide) rfl (fun _ => rfl) hl.1 rfl rfl (Nat.le_of_ble_eq_true rfl) d_PP_addHeader_44 (fun u7 H locs h hw => ?_)
  refine lv_aload_n hx hb d_PP_addHeader_47 rfl (lv_at hl 0 rfl) ?_
  refine kget (v := .ref (a 4)) (T := F_PP) E hw in_PP rfl 0 3 rfl (by decide) tw212 rfl d_PP_addHeader_48 ?_
  refine kVv (y := y_Chk_close) (ws' := fun u9 => [e_PP a, e_Pic a Pic_width Pic_height Pic_stride, e_Out a u9.1 Out_gathered Out_gatheredBits, e_Chk a u1.2.1, e_ar a n cI 11 u9.2, e_ar a n cI 12 ct]) (wr := [e_PP a, e_Pic a Pic_width Pic_height Pic_stride]) (As := []) (rest := []) E hw (c_Chk_close (l := l) (dC := dC) (dI := dI) (cI := cI) (tb := tb) (a := a) (n := n) (Out_size := u7.1) (Out_gathered := Out_gathered) (Out_gatheredBits := Out_gatheredBits) (Chk_start := u1.2.1) (ob := u7.2) (ct := ct)  h) tw318 tw319 tw320 tw39 tw321 0 (by decide) ⟨Nat.le_of_ble_eq_true rfl, Nat.le_of_ble_eq_true rfl⟩ ⟨Nat.le_of_ble_eq_true rfl, Nat.le_of_ble_eq_true rfl⟩ ⟨rfl, rfl⟩ rfl rfl 3 rfl [2, 3, 4, 5] [0, 1] [0, 1, 2, 3, 4, 5] rfl rfl rfl rfl (by decide) rfl (fun _ => rfl) hl.1 rfl rfl (Nat.le_of_ble_eq_true rfl) d_PP_addHeader_51 (fun u9 H locs h hw => ?_)
  exact retV (out := fun u => [e_PP a, e_Pic a Pic_width Pic_height Pic_stride, e_Out a u.1 Out_gathered Out_gatheredBits, e_Chk a u.2.1, e_ar a n cI 11 u.2.2, e_ar a n cI 12 ct]) (u := (u9.1, u1.2.1, u9.2)) E hr hlk hw h d_PP_addHeader_54
-- PicturePacker.put()I
theorem d_PP_put_0 : decode prog_1_method_5_code 0 = .ok (.aload_n 0, 1) := by decide +kernel
theorem d_PP_put_1 : decode prog_1_method_5_code 1 = .ok (.getfield 27, 3) := by decide +kernel
theorem d_PP_put_4 : decode prog_1_method_5_code 4 = .ok (.invokevirtual 89, 3) := by decide +kernel
theorem d_PP_put_7 : decode prog_1_method_5_code 7 = .ok (.aload_n 0, 1) := by decide +kernel
theorem d_PP_put_8 : decode prog_1_method_5_code 8 = .ok (.getfield 43, 3) := by decide +kernel
theorem d_PP_put_11 : decode prog_1_method_5_code 11 = .ok (.invokevirtual 92, 3) := by decide +kernel
theorem d_PP_put_14 : decode prog_1_method_5_code 14 = .ok (.aload_n 0, 1) := by decide +kernel
theorem d_PP_put_15 : decode prog_1_method_5_code 15 = .ok (.getfield 43, 3) := by decide +kernel
theorem d_PP_put_18 : decode prog_1_method_5_code 18 = .ok (.getstatic 95, 3) := by decide +kernel
theorem d_PP_put_21 : decode prog_1_method_5_code 21 = .ok (.invokevirtual 98, 3) := by decide +kernel
theorem d_PP_put_24 : decode prog_1_method_5_code 24 = .ok (.aload_n 0, 1) := by decide +kernel
theorem d_PP_put_25 : decode prog_1_method_5_code 25 = .ok (.invokevirtual 102, 3) := by decide +kernel
theorem d_PP_put_28 : decode prog_1_method_5_code 28 = .ok (.aload_n 0, 1) := by decide +kernel
theorem d_PP_put_29 : decode prog_1_method_5_code 29 = .ok (.getfield 52, 3) := by decide +kernel
theorem d_PP_put_32 : decode prog_1_method_5_code 32 = .ok (.ldc 105, 2) := by decide +kernel
theorem d_PP_put_34 : decode prog_1_method_5_code 34 = .ok (.invokevirtual 106, 3) := by decide +kernel
theorem d_PP_put_37 : decode prog_1_method_5_code 37 = .ok (.aload_n 0, 1) := by decide +kernel
theorem d_PP_put_38 : decode prog_1_method_5_code 38 = .ok (.getfield 43, 3) := by decide +kernel
theorem d_PP_put_41 : decode prog_1_method_5_code 41 = .ok (.getstatic 109, 3) := by decide +kernel
theorem d_PP_put_44 : decode prog_1_method_5_code 44 = .ok (.invokevirtual 98, 3) := by decide +kernel
theorem d_PP_put_47 : decode prog_1_method_5_code 47 = .ok (.aload_n 0, 1) := by decide +kernel
theorem d_PP_put_48 : decode prog_1_method_5_code 48 = .ok (.getfield 61, 3) := by decide +kernel
theorem d_PP_put_51 : decode prog_1_method_5_code 51 = .ok (.invokevirtual 112, 3) := by decide +kernel
theorem d_PP_put_54 : decode prog_1_method_5_code 54 = .ok (.aload_n 0, 1) := by decide +kernel
theorem d_PP_put_55 : decode prog_1_method_5_code 55 = .ok (.getfield 43, 3) := by decide +kernel
theorem d_PP_put_58 : decode prog_1_method_5_code 58 = .ok (.aload_n 0, 1) := by decide +kernel
theorem d_PP_put_59 : decode prog_1_method_5_code 59 = .ok (.getfield 27, 3) := by decide +kernel
theorem d_PP_put_62 : decode prog_1_method_5_code 62 = .ok (.invokevirtual 115, 3) := by decide +kernel
theorem d_PP_put_65 : decode prog_1_method_5_code 65 = .ok (.invokevirtual 119, 3) := by decide +kernel
theorem d_PP_put_68 : decode prog_1_method_5_code 68 = .ok (.aload_n 0, 1) := by decide +kernel
theorem d_PP_put_69 : decode prog_1_method_5_code 69 = .ok (.getfield 52, 3) := by decide +kernel
theorem d_PP_put_72 : decode prog_1_method_5_code 72 = .ok (.invokevirtual 122, 3) := by decide +kernel
theorem d_PP_put_75 : decode prog_1_method_5_code 75 = .ok (.aload_n 0, 1) := by decide +kernel
theorem d_PP_put_76 : decode prog_1_method_5_code 76 = .ok (.getfield 52, 3) := by decide +kernel
theorem d_PP_put_79 : decode prog_1_method_5_code 79 = .ok (.ldc 125, 2) := by decide +kernel
theorem d_PP_put_81 : decode prog_1_method_5_code 81 = .ok (.invokevirtual 106, 3) := by decide +kernel
theorem d_PP_put_84 : decode prog_1_method_5_code 84 = .ok (.aload_n 0, 1) := by decide +kernel
theorem d_PP_put_85 : decode prog_1_method_5_code 85 = .ok (.getfield 52, 3) := by decide +kernel
theorem d_PP_put_88 : decode prog_1_method_5_code 88 = .ok (.invokevirtual 122, 3) := by decide +kernel
theorem d_PP_put_91 : decode prog_1_method_5_code 91 = .ok (.aload_n 0, 1) := by decide +kernel
theorem d_PP_put_92 : decode prog_1_method_5_code 92 = .ok (.getfield 43, 3) := by decide +kernel
theorem d_PP_put_95 : decode prog_1_method_5_code 95 = .ok (.getfield 126, 3) := by decide +kernel
theorem d_PP_put_98 : decode prog_1_method_5_code 98 = .ok (.ireturn, 1) := by decide +kernel
abbrev y_PP_put : MethodName := ⟨"PicturePacker", "put", "()I"⟩
def wp_PP_put (n : Nat → Nat) (tb : Tbs) (Pic_width : Int32) (Pic_height : Int32) (Pic_stride : Int32) (Rows_rowLength : Int32) (Out_size : Int32) (Out_gathered : Int32) (Out_gatheredBits : Int32) (Chk_start : Int32) (Pak_singles : Int32) (Pak_runs : Int32) (Pak_longest : Int32) (Fin_chained : Int32) (Fin_length : Int32) (Fin_distance : Int32) (pb : Nat → Int32) (rb : Nat → Int32) (fl : Nat → Int32) (ob : Nat → Int32) (ct : Nat → Int32) (nw : Nat → Int32) (nx : Nat → Int32) (post : Int32 → Int32 × Int32 × Int32 × Int32 × Int32 × Int32 × Int32 × Int32 × Int32 × Int32 × (Nat → Int32) × (Nat → Int32) × (Nat → Int32) × (Nat → Int32) × (Nat → Int32) → Prop) : Prop := wp_Rows_make n Pic_stride Rows_rowLength pb rb fl (fun u1 => wp_Out_restart n Out_size Out_gathered Out_gatheredBits (fun u3 => wp_Out_addAll n tb 0 u3.1 ob (fun u5 => wp_PP_addHeader n tb Pic_width Pic_height u5.1 Chk_start u5.2 ct (fun u7 => wp_Chk_open n u7.1 u7.2.1 u7.2.2 1229209940 (fun u9 => wp_Out_addAll n tb 3 u9.1 u9.2.2 (fun u11 => wp_Pak_pack n u11.1 u3.2.1 u3.2.2 Pak_singles Pak_runs Pak_longest Fin_chained Fin_length Fin_distance u1.1 u11.2 nw nx (fun u13 => wp_Rows_sum n u1.1 (fun r16 _ => wp_Out_addNumber n u13.1 u13.2.2.2.2.2.2.2.2.2.1 r16 (fun u17 => wp_Chk_close n u17.1 u9.2.1 u17.2 ct (fun u19 => wp_Chk_open n u19.1 u9.2.1 u19.2 1229278788 (fun u21 => wp_Chk_close n u21.1 u21.2.1 u21.2.2 ct (fun u23 => post u23.1 (u23.1, u13.2.1, u13.2.2.1, u21.2.1, u13.2.2.2.1, u13.2.2.2.2.1, u13.2.2.2.2.2.1, u13.2.2.2.2.2.2.1, u13.2.2.2.2.2.2.2.1, u13.2.2.2.2.2.2.2.2.1, u1.1, u1.2, u23.2, u13.2.2.2.2.2.2.2.2.2.2.1, u13.2.2.2.2.2.2.2.2.2.2.2)))))))))))))
set_option maxHeartbeats 2000000 in
set_option maxRecDepth 20000 in
theorem c_PP_put {l : Launch} {dC : Nat → ClassId} {dI : Nat → Nat → Nat} {cI : ClassId} {tb : Tbs} {a n : Nat → Nat} {Pic_width : Int32} {Pic_height : Int32} {Pic_stride : Int32} {Rows_rowLength : Int32} {Out_size : Int32} {Out_gathered : Int32} {Out_gatheredBits : Int32} {Chk_start : Int32} {Pak_singles : Int32} {Pak_runs : Int32} {Pak_longest : Int32} {Fin_chained : Int32} {Fin_length : Int32} {Fin_distance : Int32} {pb : Nat → Int32} {rb : Nat → Int32} {fl : Nat → Int32} {ob : Nat → Int32} {ct : Nat → Int32} {nw : Nat → Int32} {nx : Nat → Int32} {post : Int32 → Int32 × Int32 × Int32 × Int32 × Int32 × Int32 × Int32 × Int32 × Int32 × Int32 × (Nat → Int32) × (Nat → Int32) × (Nat → Int32) × (Nat → Int32) × (Nat → Int32) → Prop} (h : wp_PP_put n tb Pic_width Pic_height Pic_stride Rows_rowLength Out_size Out_gathered Out_gatheredBits Chk_start Pak_singles Pak_runs Pak_longest Fin_chained Fin_length Fin_distance pb rb fl ob ct nw nx post) : CtI classes dC dI cI tb l y_PP_put prog_1_method_5_code 1 .int ({ frames := 7, cells := 0, slots := 0, locals := 167 }) [.ref (a 0)] [e_PP a, e_Pic a Pic_width Pic_height Pic_stride, e_Rows a Rows_rowLength, e_Out a Out_size Out_gathered Out_gatheredBits, e_Chk a Chk_start, e_Pak a Pak_singles Pak_runs Pak_longest, e_Fin a Fin_chained Fin_length Fin_distance, e_ar a n cI 8 pb, e_ar a n cI 9 rb, e_ar a n cI 10 fl, e_ar a n cI 11 ob, e_ar a n cI 12 ct, e_ar a n cI 13 nw, e_ar a n cI 14 nx] (Int32 × Int32 × Int32 × Int32 × Int32 × Int32 × Int32 × Int32 × Int32 × Int32 × (Nat → Int32) × (Nat → Int32) × (Nat → Int32) × (Nat → Int32) × (Nat → Int32)) (fun u => [e_PP a, e_Pic a Pic_width Pic_height Pic_stride, e_Rows a Rows_rowLength, e_Out a u.1 u.2.1 u.2.2.1, e_Chk a u.2.2.2.1, e_Pak a u.2.2.2.2.1 u.2.2.2.2.2.1 u.2.2.2.2.2.2.1, e_Fin a u.2.2.2.2.2.2.2.1 u.2.2.2.2.2.2.2.2.1 u.2.2.2.2.2.2.2.2.2.1, e_ar a n cI 8 pb, e_ar a n cI 9 u.2.2.2.2.2.2.2.2.2.2.1, e_ar a n cI 10 u.2.2.2.2.2.2.2.2.2.2.2.1, e_ar a n cI 11 u.2.2.2.2.2.2.2.2.2.2.2.2.1, e_ar a n cI 12 ct, e_ar a n cI 13 u.2.2.2.2.2.2.2.2.2.2.2.2.2.1, e_ar a n cI 14 u.2.2.2.2.2.2.2.2.2.2.2.2.2.2]) post := by
  refine startI (by decide) (Nat.le_of_ble_eq_true rfl) ?_
  intro p e s m below meth c ls E hr hlk hnm hl hw
  have hl : lv_has ls 1 [(0, .ref (a 0))] := hl
  generalize va_A [e_PP a, e_Pic a Pic_width Pic_height Pic_stride, e_Rows a Rows_rowLength, e_Out a Out_size Out_gathered Out_gatheredBits, e_Chk a Chk_start, e_Pak a Pak_singles Pak_runs Pak_longest, e_Fin a Fin_chained Fin_length Fin_distance, e_ar a n cI 8 pb, e_ar a n cI 9 rb, e_ar a n cI 10 fl, e_ar a n cI 11 ob, e_ar a n cI 12 ct, e_ar a n cI 13 nw, e_ar a n cI 14 nx] s.heap.size = A at hw ⊢
  obtain ⟨hx, hb, hml, hown, hts⟩ := id E
  unfold wp_PP_put at h
  refine lv_aload_n hx hb d_PP_put_0 rfl (lv_at hl 0 rfl) ?_
  refine kget (v := .ref (a 2)) (T := F_PP) E hw in_PP rfl 0 1 rfl (by decide) tw210 rfl d_PP_put_1 ?_
  refine kVv (y := y_Rows_make) (ws' := fun u1 => [e_PP a, e_Pic a Pic_width Pic_height Pic_stride, e_Rows a Rows_rowLength, e_Out a Out_size Out_gathered Out_gatheredBits, e_Chk a Chk_start, e_Pak a Pak_singles Pak_runs Pak_longest, e_Fin a Fin_chained Fin_length Fin_distance, e_ar a n cI 8 pb, e_ar a n cI 9 u1.1, e_ar a n cI 10 u1.2, e_ar a n cI 11 ob, e_ar a n cI 12 ct, e_ar a n cI 13 nw, e_ar a n cI 14 nx]) (wr := [e_PP a, e_Out a Out_size Out_gathered Out_gatheredBits, e_Chk a Chk_start, e_Pak a Pak_singles Pak_runs Pak_longest, e_Fin a Fin_chained Fin_length Fin_distance, e_ar a n cI 11 ob, e_ar a n cI 12 ct, e_ar a n cI 13 nw, e_ar a n cI 14 nx]) (As := []) (rest := []) E hw (c_Rows_make (l := l) (dC := dC) (dI := dI) (cI := cI) (tb := tb) (a := a) (n := n) (Pic_width := Pic_width) (Pic_height := Pic_height) (Pic_stride := Pic_stride) (Rows_rowLength := Rows_rowLength) (pb := pb) (rb := rb) (fl := fl)  h) tw257 tw258 tw259 tw36 tw260 0 (by decide) ⟨Nat.le_of_ble_eq_true rfl, Nat.le_of_ble_eq_true rfl⟩ ⟨Nat.le_of_ble_eq_true rfl, Nat.le_of_ble_eq_true rfl⟩ ⟨rfl, rfl⟩ rfl rfl 2 rfl [1, 2, 7, 8, 9] [0, 3, 4, 5, 6, 10, 11, 12, 13] [0, 9, 10, 1, 2, 3, 4, 11, 12, 13, 5, 6, 7, 8] rfl rfl rfl rfl (by decide) rfl (fun _ => rfl) hl.1 rfl rfl (Nat.le_of_ble_eq_true rfl) d_PP_put_4 (fun u1 H locs h hw => ?_)
  refine lv_aload_n hx hb d_PP_put_7 rfl (lv_at hl 0 rfl) ?_
  refine kget (v := .ref (a 3)) (T := F_PP) E hw in_PP rfl 0 2 rfl (by decide) tw211 rfl d_PP_put_8 ?_
  refine kVv (y := y_Out_restart) (ws' := fun u3 => [e_PP a, e_Pic a Pic_width Pic_height Pic_stride, e_Rows a Rows_rowLength, e_Out a u3.1 u3.2.1 u3.2.2, e_Chk a Chk_start, e_Pak a Pak_singles Pak_runs Pak_longest, e_Fin a Fin_chained Fin_length Fin_distance, e_ar a n cI 8 pb, e_ar a n cI 9 u1.1, e_ar a n cI 10 u1.2, e_ar a n cI 11 ob, e_ar a n cI 12 ct, e_ar a n cI 13 nw, e_ar a n cI 14 nx]) (wr := [e_PP a, e_Pic a Pic_width Pic_height Pic_stride, e_Rows a Rows_rowLength, e_Chk a Chk_start, e_Pak a Pak_singles Pak_runs Pak_longest, e_Fin a Fin_chained Fin_length Fin_distance, e_ar a n cI 8 pb, e_ar a n cI 9 u1.1, e_ar a n cI 10 u1.2, e_ar a n cI 11 ob, e_ar a n cI 12 ct, e_ar a n cI 13 nw, e_ar a n cI 14 nx]) (As := []) (rest := []) E hw (c_Out_restart (l := l) (dC := dC) (dI := dI) (cI := cI) (tb := tb) (a := a) (n := n) (Out_size := Out_size) (Out_gathered := Out_gathered) (Out_gatheredBits := Out_gatheredBits)  h) tw288 tw289 tw290 tw38 tw291 0 (by decide) ⟨Nat.le_of_ble_eq_true rfl, Nat.le_of_ble_eq_true rfl⟩ ⟨Nat.le_of_ble_eq_true rfl, Nat.le_of_ble_eq_true rfl⟩ ⟨rfl, rfl⟩ rfl rfl 3 rfl [3] [0, 1, 2, 4, 5, 6, 7, 8, 9, 10, 11, 12, 13] [0, 1, 2, 13, 3, 4, 5, 6, 7, 8, 9, 10, 11, 12] rfl rfl rfl rfl (by decide) rfl (fun _ => rfl) hl.1 rfl rfl (Nat.le_of_ble_eq_true rfl) d_PP_put_11 (fun u3 H locs h hw => ?_)
  refine lv_aload_n hx hb d_PP_put_14 rfl (lv_at hl 0 rfl) ?_
  refine kget (v := .ref (a 3)) (T := F_PP) E hw in_PP rfl 0 2 rfl (by decide) tw211 rfl d_PP_put_15 ?_
  refine kgs0 E hw tw292 d_PP_put_18 ?_
  refine kVv (y := y_Out_addAll) (ws' := fun u5 => [e_PP a, e_Pic a Pic_width Pic_height Pic_stride, e_Rows a Rows_rowLength, e_Out a u5.1 u3.2.1 u3.2.2, e_Chk a Chk_start, e_Pak a Pak_singles Pak_runs Pak_longest, e_Fin a Fin_chained Fin_length Fin_distance, e_ar a n cI 8 pb, e_ar a n cI 9 u1.1, e_ar a n cI 10 u1.2, e_ar a n cI 11 u5.2, e_ar a n cI 12 ct, e_ar a n cI 13 nw, e_ar a n cI 14 nx]) (wr := [e_PP a, e_Pic a Pic_width Pic_height Pic_stride, e_Rows a Rows_rowLength, e_Chk a Chk_start, e_Pak a Pak_singles Pak_runs Pak_longest, e_Fin a Fin_chained Fin_length Fin_distance, e_ar a n cI 8 pb, e_ar a n cI 9 u1.1, e_ar a n cI 10 u1.2, e_ar a n cI 12 ct, e_ar a n cI 13 nw, e_ar a n cI 14 nx]) (As := [.ref (tb 0).1]) (rest := []) E hw (c_Out_addAll (l := l) (dC := dC) (dI := dI) (cI := cI) (tb := tb) (a := a) (n := n) (Out_size := u3.1) (Out_gathered := u3.2.1) (Out_gatheredBits := u3.2.2) (ob := ob)  (K := 0) (hK2 := (by decide)) h) tw294 tw295 tw296 tw38 tw297 1 (by decide) ⟨Nat.le_of_ble_eq_true rfl, Nat.le_of_ble_eq_true rfl⟩ ⟨Nat.le_of_ble_eq_true rfl, Nat.le_of_ble_eq_true rfl⟩ ⟨rfl, rfl⟩ rfl rfl 3 rfl [3, 10] [0, 1, 2, 4, 5, 6, 7, 8, 9, 11, 12, 13] [0, 1, 2, 12, 3, 4, 5, 6, 7, 8, 13, 9, 10, 11] rfl rfl rfl rfl (by decide) rfl (fun _ => rfl) hl.1 rfl rfl (Nat.le_of_ble_eq_true rfl) d_PP_put_21 (fun u5 H locs h hw => ?_)
  refine lv_aload_n hx hb d_PP_put_24 rfl (lv_at hl 0 rfl) ?_
  refine kVv (y := y_PP_addHeader) (ws' := fun u7 => [e_PP a, e_Pic a Pic_width Pic_height Pic_stride, e_Rows a Rows_rowLength, e_Out a u7.1 u3.2.1 u3.2.2, e_Chk a u7.2.1, e_Pak a Pak_singles Pak_runs Pak_longest, e_Fin a Fin_chained Fin_length Fin_distance, e_ar a n cI 8 pb, e_ar a n cI 9 u1.1, e_ar a n cI 10 u1.2, e_ar a n cI 11 u7.2.2, e_ar a n cI 12 ct, e_ar a n cI 13 nw, e_ar a n cI 14 nx]) (wr := [e_Rows a Rows_rowLength, e_Pak a Pak_singles Pak_runs Pak_longest, e_Fin a Fin_chained Fin_length Fin_distance, e_ar a n cI 8 pb, e_ar a n cI 9 u1.1, e_ar a n cI 10 u1.2, e_ar a n cI 13 nw, e_ar a n cI 14 nx]) (As := []) (rest := []) E hw (c_PP_addHeader (l := l) (dC := dC) (dI := dI) (cI := cI) (tb := tb) (a := a) (n := n) (Pic_width := Pic_width) (Pic_height := Pic_height) (Pic_stride := Pic_stride) (Out_size := u5.1) (Out_gathered := u3.2.1) (Out_gatheredBits := u3.2.2) (Chk_start := Chk_start) (ob := u5.2) (ct := ct)  h) tw302 tw304 tw3 tw33 tw305 0 (by decide) ⟨Nat.le_of_ble_eq_true rfl, Nat.le_of_ble_eq_true rfl⟩ ⟨Nat.le_of_ble_eq_true rfl, Nat.le_of_ble_eq_true rfl⟩ ⟨rfl, rfl⟩ rfl rfl 0 rfl [0, 1, 3, 4, 10, 11] [2, 5, 6, 7, 8, 9, 12, 13] [8, 9, 0, 10, 11, 1, 2, 3, 4, 5, 12, 13, 6, 7] rfl rfl rfl rfl (by decide) rfl (fun _ => rfl) hl.1 rfl rfl (Nat.le_of_ble_eq_true rfl) d_PP_put_25 (fun u7 H locs h hw => ?_)
  refine lv_aload_n hx hb d_PP_put_28 rfl (lv_at hl 0 rfl) ?_
  refine kget (v := .ref (a 4)) (T := F_PP) E hw in_PP rfl 0 3 rfl (by decide) tw212 rfl d_PP_put_29 ?_
  refine lv_ldc (v := 1229209940) hx hb hown (hts _ tw331) d_PP_put_32 ?_
  refine kVv (y := y_Chk_open) (ws' := fun u9 => [e_PP a, e_Pic a Pic_width Pic_height Pic_stride, e_Rows a Rows_rowLength, e_Out a u9.1 u3.2.1 u3.2.2, e_Chk a u9.2.1, e_Pak a Pak_singles Pak_runs Pak_longest, e_Fin a Fin_chained Fin_length Fin_distance, e_ar a n cI 8 pb, e_ar a n cI 9 u1.1, e_ar a n cI 10 u1.2, e_ar a n cI 11 u9.2.2, e_ar a n cI 12 ct, e_ar a n cI 13 nw, e_ar a n cI 14 nx]) (wr := [e_PP a, e_Pic a Pic_width Pic_height Pic_stride, e_Rows a Rows_rowLength, e_Pak a Pak_singles Pak_runs Pak_longest, e_Fin a Fin_chained Fin_length Fin_distance, e_ar a n cI 8 pb, e_ar a n cI 9 u1.1, e_ar a n cI 10 u1.2, e_ar a n cI 12 ct, e_ar a n cI 13 nw, e_ar a n cI 14 nx]) (As := [.int 1229209940]) (rest := []) E hw (c_Chk_open (l := l) (dC := dC) (dI := dI) (cI := cI) (tb := tb) (a := a) (n := n) (Out_size := u7.1) (Out_gathered := u3.2.1) (Out_gatheredBits := u3.2.2) (Chk_start := u7.2.1) (ob := u7.2.2) (x1 := 1229209940) h) tw307 tw308 tw309 tw39 tw310 1 (by decide) ⟨Nat.le_of_ble_eq_true rfl, Nat.le_of_ble_eq_true rfl⟩ ⟨Nat.le_of_ble_eq_true rfl, Nat.le_of_ble_eq_true rfl⟩ ⟨rfl, rfl⟩ rfl rfl 4 rfl [3, 4, 10] [0, 1, 2, 5, 6, 7, 8, 9, 11, 12, 13] [0, 1, 2, 11, 12, 3, 4, 5, 6, 7, 13, 8, 9, 10] rfl rfl rfl rfl (by decide) rfl (fun _ => rfl) hl.1 rfl rfl (Nat.le_of_ble_eq_true rfl) d_PP_put_34 (fun u9 H locs h hw => ?_)
  refine lv_aload_n hx hb d_PP_put_37 rfl (lv_at hl 0 rfl) ?_
  refine kget (v := .ref (a 3)) (T := F_PP) E hw in_PP rfl 0 2 rfl (by decide) tw211 rfl d_PP_put_38 ?_
  refine kgs3 E hw tw332 d_PP_put_41 ?_
  refine kVv (y := y_Out_addAll) (ws' := fun u11 => [e_PP a, e_Pic a Pic_width Pic_height Pic_stride, e_Rows a Rows_rowLength, e_Out a u11.1 u3.2.1 u3.2.2, e_Chk a u9.2.1, e_Pak a Pak_singles Pak_runs Pak_longest, e_Fin a Fin_chained Fin_length Fin_distance, e_ar a n cI 8 pb, e_ar a n cI 9 u1.1, e_ar a n cI 10 u1.2, e_ar a n cI 11 u11.2, e_ar a n cI 12 ct, e_ar a n cI 13 nw, e_ar a n cI 14 nx]) (wr := [e_PP a, e_Pic a Pic_width Pic_height Pic_stride, e_Rows a Rows_rowLength, e_Chk a u9.2.1, e_Pak a Pak_singles Pak_runs Pak_longest, e_Fin a Fin_chained Fin_length Fin_distance, e_ar a n cI 8 pb, e_ar a n cI 9 u1.1, e_ar a n cI 10 u1.2, e_ar a n cI 12 ct, e_ar a n cI 13 nw, e_ar a n cI 14 nx]) (As := [.ref (tb 3).1]) (rest := []) E hw (c_Out_addAll (l := l) (dC := dC) (dI := dI) (cI := cI) (tb := tb) (a := a) (n := n) (Out_size := u9.1) (Out_gathered := u3.2.1) (Out_gatheredBits := u3.2.2) (ob := u9.2.2)  (K := 3) (hK2 := (by decide)) h) tw294 tw295 tw296 tw38 tw297 1 (by decide) ⟨Nat.le_of_ble_eq_true rfl, Nat.le_of_ble_eq_true rfl⟩ ⟨Nat.le_of_ble_eq_true rfl, Nat.le_of_ble_eq_true rfl⟩ ⟨rfl, rfl⟩ rfl rfl 3 rfl [3, 10] [0, 1, 2, 4, 5, 6, 7, 8, 9, 11, 12, 13] [0, 1, 2, 12, 3, 4, 5, 6, 7, 8, 13, 9, 10, 11] rfl rfl rfl rfl (by decide) rfl (fun _ => rfl) hl.1 rfl rfl (Nat.le_of_ble_eq_true rfl) d_PP_put_44 (fun u11 H locs h hw => ?_)
  refine lv_aload_n hx hb d_PP_put_47 rfl (lv_at hl 0 rfl) ?_
  refine kget (v := .ref (a 5)) (T := F_PP) E hw in_PP rfl 0 4 rfl (by decide) tw213 rfl d_PP_put_48 ?_
  refine kVv (y := y_Pak_pack) (ws' := fun u13 => [e_PP a, e_Pic a Pic_width Pic_height Pic_stride, e_Rows a Rows_rowLength, e_Out a u13.1 u13.2.1 u13.2.2.1, e_Chk a u9.2.1, e_Pak a u13.2.2.2.1 u13.2.2.2.2.1 u13.2.2.2.2.2.1, e_Fin a u13.2.2.2.2.2.2.1 u13.2.2.2.2.2.2.2.1 u13.2.2.2.2.2.2.2.2.1, e_ar a n cI 8 pb, e_ar a n cI 9 u1.1, e_ar a n cI 10 u1.2, e_ar a n cI 11 u13.2.2.2.2.2.2.2.2.2.1, e_ar a n cI 12 ct, e_ar a n cI 13 u13.2.2.2.2.2.2.2.2.2.2.1, e_ar a n cI 14 u13.2.2.2.2.2.2.2.2.2.2.2]) (wr := [e_PP a, e_Pic a Pic_width Pic_height Pic_stride, e_Rows a Rows_rowLength, e_Chk a u9.2.1, e_ar a n cI 8 pb, e_ar a n cI 10 u1.2, e_ar a n cI 12 ct]) (As := []) (rest := []) E hw (c_Pak_pack (l := l) (dC := dC) (dI := dI) (cI := cI) (tb := tb) (a := a) (n := n) (Out_size := u11.1) (Out_gathered := u3.2.1) (Out_gatheredBits := u3.2.2) (Pak_singles := Pak_singles) (Pak_runs := Pak_runs) (Pak_longest := Pak_longest) (Fin_chained := Fin_chained) (Fin_length := Fin_length) (Fin_distance := Fin_distance) (rb := u1.1) (ob := u11.2) (nw := nw) (nx := nx)  h) tw334 tw335 tw336 tw40 tw337 0 (by decide) ⟨Nat.le_of_ble_eq_true rfl, Nat.le_of_ble_eq_true rfl⟩ ⟨Nat.le_of_ble_eq_true rfl, Nat.le_of_ble_eq_true rfl⟩ ⟨rfl, rfl⟩ rfl rfl 5 rfl [3, 5, 6, 8, 10, 12, 13] [0, 1, 2, 4, 7, 9, 11] [0, 1, 2, 7, 3, 8, 9, 4, 10, 5, 11, 6, 12, 13] rfl rfl rfl rfl (by decide) rfl (fun _ => rfl) hl.1 rfl rfl (Nat.le_of_ble_eq_true rfl) d_PP_put_51 (fun u13 H locs h hw => ?_)
  refine lv_aload_n hx hb d_PP_put_54 rfl (lv_at hl 0 rfl) ?_
  refine kget (v := .ref (a 3)) (T := F_PP) E hw in_PP rfl 0 2 rfl (by decide) tw211 rfl d_PP_put_55 ?_
  refine lv_aload_n hx hb d_PP_put_58 rfl (lv_at hl 0 rfl) ?_
  refine kget (v := .ref (a 2)) (T := F_PP) E hw in_PP rfl 0 1 rfl (by decide) tw210 rfl d_PP_put_59 ?_
  refine kVi (y := y_Rows_sum) (ws' := fun _ => [e_PP a, e_Pic a Pic_width Pic_height Pic_stride, e_Rows a Rows_rowLength, e_Out a u13.1 u13.2.1 u13.2.2.1, e_Chk a u9.2.1, e_Pak a u13.2.2.2.1 u13.2.2.2.2.1 u13.2.2.2.2.2.1, e_Fin a u13.2.2.2.2.2.2.1 u13.2.2.2.2.2.2.2.1 u13.2.2.2.2.2.2.2.2.1, e_ar a n cI 8 pb, e_ar a n cI 9 u1.1, e_ar a n cI 10 u1.2, e_ar a n cI 11 u13.2.2.2.2.2.2.2.2.2.1, e_ar a n cI 12 ct, e_ar a n cI 13 u13.2.2.2.2.2.2.2.2.2.2.1, e_ar a n cI 14 u13.2.2.2.2.2.2.2.2.2.2.2]) (wr := [e_PP a, e_Pic a Pic_width Pic_height Pic_stride, e_Out a u13.1 u13.2.1 u13.2.2.1, e_Chk a u9.2.1, e_Pak a u13.2.2.2.1 u13.2.2.2.2.1 u13.2.2.2.2.2.1, e_Fin a u13.2.2.2.2.2.2.1 u13.2.2.2.2.2.2.2.1 u13.2.2.2.2.2.2.2.2.1, e_ar a n cI 8 pb, e_ar a n cI 10 u1.2, e_ar a n cI 11 u13.2.2.2.2.2.2.2.2.2.1, e_ar a n cI 12 ct, e_ar a n cI 13 u13.2.2.2.2.2.2.2.2.2.2.1, e_ar a n cI 14 u13.2.2.2.2.2.2.2.2.2.2.2]) (As := []) (rest := [.ref (a 3)]) E hw (c_Rows_sum (l := l) (dC := dC) (dI := dI) (cI := cI) (tb := tb) (a := a) (n := n) (Rows_rowLength := Rows_rowLength) (rb := u1.1)  h) tw401 tw402 tw403 tw36 tw404 0 (by decide) ⟨Nat.le_of_ble_eq_true rfl, Nat.le_of_ble_eq_true rfl⟩ ⟨Nat.le_of_ble_eq_true rfl, Nat.le_of_ble_eq_true rfl⟩ ⟨rfl, rfl⟩ rfl rfl 2 rfl [2, 8] [0, 1, 3, 4, 5, 6, 7, 9, 10, 11, 12, 13] [0, 1, 12, 2, 3, 4, 5, 6, 13, 7, 8, 9, 10, 11] rfl rfl rfl rfl (by decide) rfl (fun _ => rfl) hl.1 rfl rfl (Nat.le_of_ble_eq_true rfl) d_PP_put_62 (fun r16 u15 H locs h hw => ?_)
  refine kVv (y := y_Out_addNumber) (ws' := fun u17 => [e_PP a, e_Pic a Pic_width Pic_height Pic_stride, e_Rows a Rows_rowLength, e_Out a u17.1 u13.2.1 u13.2.2.1, e_Chk a u9.2.1, e_Pak a u13.2.2.2.1 u13.2.2.2.2.1 u13.2.2.2.2.2.1, e_Fin a u13.2.2.2.2.2.2.1 u13.2.2.2.2.2.2.2.1 u13.2.2.2.2.2.2.2.2.1, e_ar a n cI 8 pb, e_ar a n cI 9 u1.1, e_ar a n cI 10 u1.2, e_ar a n cI 11 u17.2, e_ar a n cI 12 ct, e_ar a n cI 13 u13.2.2.2.2.2.2.2.2.2.2.1, e_ar a n cI 14 u13.2.2.2.2.2.2.2.2.2.2.2]) (wr := [e_PP a, e_Pic a Pic_width Pic_height Pic_stride, e_Rows a Rows_rowLength, e_Chk a u9.2.1, e_Pak a u13.2.2.2.1 u13.2.2.2.2.1 u13.2.2.2.2.2.1, e_Fin a u13.2.2.2.2.2.2.1 u13.2.2.2.2.2.2.2.1 u13.2.2.2.2.2.2.2.2.1, e_ar a n cI 8 pb, e_ar a n cI 9 u1.1, e_ar a n cI 10 u1.2, e_ar a n cI 12 ct, e_ar a n cI 13 u13.2.2.2.2.2.2.2.2.2.2.1, e_ar a n cI 14 u13.2.2.2.2.2.2.2.2.2.2.2]) (As := [.int r16]) (rest := []) E hw (c_Out_addNumber (l := l) (dC := dC) (dI := dI) (cI := cI) (tb := tb) (a := a) (n := n) (Out_size := u13.1) (Out_gathered := u13.2.1) (Out_gatheredBits := u13.2.2.1) (ob := u13.2.2.2.2.2.2.2.2.2.1) (x1 := r16) h) tw315 tw312 tw313 tw38 tw314 1 (by decide) ⟨Nat.le_of_ble_eq_true rfl, Nat.le_of_ble_eq_true rfl⟩ ⟨Nat.le_of_ble_eq_true rfl, Nat.le_of_ble_eq_true rfl⟩ ⟨rfl, rfl⟩ rfl rfl 3 rfl [3, 10] [0, 1, 2, 4, 5, 6, 7, 8, 9, 11, 12, 13] [0, 1, 2, 12, 3, 4, 5, 6, 7, 8, 13, 9, 10, 11] rfl rfl rfl rfl (by decide) rfl (fun _ => rfl) hl.1 rfl rfl (Nat.le_of_ble_eq_true rfl) d_PP_put_65 (fun u17 H locs h hw => ?_)
  refine lv_aload_n hx hb d_PP_put_68 rfl (lv_at hl 0 rfl) ?_
  refine kget (v := .ref (a 4)) (T := F_PP) E hw in_PP rfl 0 3 rfl (by decide) tw212 rfl d_PP_put_69 ?_
  refine kVv (y := y_Chk_close) (ws' := fun u19 => [e_PP a, e_Pic a Pic_width Pic_height Pic_stride, e_Rows a Rows_rowLength, e_Out a u19.1 u13.2.1 u13.2.2.1, e_Chk a u9.2.1, e_Pak a u13.2.2.2.1 u13.2.2.2.2.1 u13.2.2.2.2.2.1, e_Fin a u13.2.2.2.2.2.2.1 u13.2.2.2.2.2.2.2.1 u13.2.2.2.2.2.2.2.2.1, e_ar a n cI 8 pb, e_ar a n cI 9 u1.1, e_ar a n cI 10 u1.2, e_ar a n cI 11 u19.2, e_ar a n cI 12 ct, e_ar a n cI 13 u13.2.2.2.2.2.2.2.2.2.2.1, e_ar a n cI 14 u13.2.2.2.2.2.2.2.2.2.2.2]) (wr := [e_PP a, e_Pic a Pic_width Pic_height Pic_stride, e_Rows a Rows_rowLength, e_Pak a u13.2.2.2.1 u13.2.2.2.2.1 u13.2.2.2.2.2.1, e_Fin a u13.2.2.2.2.2.2.1 u13.2.2.2.2.2.2.2.1 u13.2.2.2.2.2.2.2.2.1, e_ar a n cI 8 pb, e_ar a n cI 9 u1.1, e_ar a n cI 10 u1.2, e_ar a n cI 13 u13.2.2.2.2.2.2.2.2.2.2.1, e_ar a n cI 14 u13.2.2.2.2.2.2.2.2.2.2.2]) (As := []) (rest := []) E hw (c_Chk_close (l := l) (dC := dC) (dI := dI) (cI := cI) (tb := tb) (a := a) (n := n) (Out_size := u17.1) (Out_gathered := u13.2.1) (Out_gatheredBits := u13.2.2.1) (Chk_start := u9.2.1) (ob := u17.2) (ct := ct)  h) tw318 tw319 tw320 tw39 tw321 0 (by decide) ⟨Nat.le_of_ble_eq_true rfl, Nat.le_of_ble_eq_true rfl⟩ ⟨Nat.le_of_ble_eq_true rfl, Nat.le_of_ble_eq_true rfl⟩ ⟨rfl, rfl⟩ rfl rfl 4 rfl [3, 4, 10, 11] [0, 1, 2, 5, 6, 7, 8, 9, 12, 13] [0, 1, 2, 10, 11, 3, 4, 5, 6, 7, 12, 13, 8, 9] rfl rfl rfl rfl (by decide) rfl (fun _ => rfl) hl.1 rfl rfl (Nat.le_of_ble_eq_true rfl) d_PP_put_72 (fun u19 H locs h hw => ?_)
  refine lv_aload_n hx hb d_PP_put_75 rfl (lv_at hl 0 rfl) ?_
  refine kget (v := .ref (a 4)) (T := F_PP) E hw in_PP rfl 0 3 rfl (by decide) tw212 rfl d_PP_put_76 ?_
  refine lv_ldc (v := 1229278788) hx hb hown (hts _ tw407) d_PP_put_79 ?_
  refine kVv (y := y_Chk_open) (ws' := fun u21 => [e_PP a, e_Pic a Pic_width Pic_height Pic_stride, e_Rows a Rows_rowLength, e_Out a u21.1 u13.2.1 u13.2.2.1, e_Chk a u21.2.1, e_Pak a u13.2.2.2.1 u13.2.2.2.2.1 u13.2.2.2.2.2.1, e_Fin a u13.2.2.2.2.2.2.1 u13.2.2.2.2.2.2.2.1 u13.2.2.2.2.2.2.2.2.1, e_ar a n cI 8 pb, e_ar a n cI 9 u1.1, e_ar a n cI 10 u1.2, e_ar a n cI 11 u21.2.2, e_ar a n cI 12 ct, e_ar a n cI 13 u13.2.2.2.2.2.2.2.2.2.2.1, e_ar a n cI 14 u13.2.2.2.2.2.2.2.2.2.2.2]) (wr := [e_PP a, e_Pic a Pic_width Pic_height Pic_stride, e_Rows a Rows_rowLength, e_Pak a u13.2.2.2.1 u13.2.2.2.2.1 u13.2.2.2.2.2.1, e_Fin a u13.2.2.2.2.2.2.1 u13.2.2.2.2.2.2.2.1 u13.2.2.2.2.2.2.2.2.1, e_ar a n cI 8 pb, e_ar a n cI 9 u1.1, e_ar a n cI 10 u1.2, e_ar a n cI 12 ct, e_ar a n cI 13 u13.2.2.2.2.2.2.2.2.2.2.1, e_ar a n cI 14 u13.2.2.2.2.2.2.2.2.2.2.2]) (As := [.int 1229278788]) (rest := []) E hw (c_Chk_open (l := l) (dC := dC) (dI := dI) (cI := cI) (tb := tb) (a := a) (n := n) (Out_size := u19.1) (Out_gathered := u13.2.1) (Out_gatheredBits := u13.2.2.1) (Chk_start := u9.2.1) (ob := u19.2) (x1 := 1229278788) h) tw307 tw308 tw309 tw39 tw310 1 (by decide) ⟨Nat.le_of_ble_eq_true rfl, Nat.le_of_ble_eq_true rfl⟩ ⟨Nat.le_of_ble_eq_true rfl, Nat.le_of_ble_eq_true rfl⟩ ⟨rfl, rfl⟩ rfl rfl 4 rfl [3, 4, 10] [0, 1, 2, 5, 6, 7, 8, 9, 11, 12, 13] [0, 1, 2, 11, 12, 3, 4, 5, 6, 7, 13, 8, 9, 10] rfl rfl rfl rfl (by decide) rfl (fun _ => rfl) hl.1 rfl rfl (Nat.le_of_ble_eq_true rfl) d_PP_put_81 (fun u21 H locs h hw => ?_)
  refine lv_aload_n hx hb d_PP_put_84 rfl (lv_at hl 0 rfl) ?_
  refine kget (v := .ref (a 4)) (T := F_PP) E hw in_PP rfl 0 3 rfl (by decide) tw212 rfl d_PP_put_85 ?_
  refine kVv (y := y_Chk_close) (ws' := fun u23 => [e_PP a, e_Pic a Pic_width Pic_height Pic_stride, e_Rows a Rows_rowLength, e_Out a u23.1 u13.2.1 u13.2.2.1, e_Chk a u21.2.1, e_Pak a u13.2.2.2.1 u13.2.2.2.2.1 u13.2.2.2.2.2.1, e_Fin a u13.2.2.2.2.2.2.1 u13.2.2.2.2.2.2.2.1 u13.2.2.2.2.2.2.2.2.1, e_ar a n cI 8 pb, e_ar a n cI 9 u1.1, e_ar a n cI 10 u1.2, e_ar a n cI 11 u23.2, e_ar a n cI 12 ct, e_ar a n cI 13 u13.2.2.2.2.2.2.2.2.2.2.1, e_ar a n cI 14 u13.2.2.2.2.2.2.2.2.2.2.2]) (wr := [e_PP a, e_Pic a Pic_width Pic_height Pic_stride, e_Rows a Rows_rowLength, e_Pak a u13.2.2.2.1 u13.2.2.2.2.1 u13.2.2.2.2.2.1, e_Fin a u13.2.2.2.2.2.2.1 u13.2.2.2.2.2.2.2.1 u13.2.2.2.2.2.2.2.2.1, e_ar a n cI 8 pb, e_ar a n cI 9 u1.1, e_ar a n cI 10 u1.2, e_ar a n cI 13 u13.2.2.2.2.2.2.2.2.2.2.1, e_ar a n cI 14 u13.2.2.2.2.2.2.2.2.2.2.2]) (As := []) (rest := []) E hw (c_Chk_close (l := l) (dC := dC) (dI := dI) (cI := cI) (tb := tb) (a := a) (n := n) (Out_size := u21.1) (Out_gathered := u13.2.1) (Out_gatheredBits := u13.2.2.1) (Chk_start := u21.2.1) (ob := u21.2.2) (ct := ct)  h) tw318 tw319 tw320 tw39 tw321 0 (by decide) ⟨Nat.le_of_ble_eq_true rfl, Nat.le_of_ble_eq_true rfl⟩ ⟨Nat.le_of_ble_eq_true rfl, Nat.le_of_ble_eq_true rfl⟩ ⟨rfl, rfl⟩ rfl rfl 4 rfl [3, 4, 10, 11] [0, 1, 2, 5, 6, 7, 8, 9, 12, 13] [0, 1, 2, 10, 11, 3, 4, 5, 6, 7, 12, 13, 8, 9] rfl rfl rfl rfl (by decide) rfl (fun _ => rfl) hl.1 rfl rfl (Nat.le_of_ble_eq_true rfl) d_PP_put_88 (fun u23 H locs h hw => ?_)
  refine lv_aload_n hx hb d_PP_put_91 rfl (lv_at hl 0 rfl) ?_
  refine kget (v := .ref (a 3)) (T := F_PP) E hw in_PP rfl 0 2 rfl (by decide) tw211 rfl d_PP_put_92 ?_
  refine kget (v := .int u23.1) (T := F_Out) E hw in_Out rfl 3 1 rfl (by decide) tw122 rfl d_PP_put_95 ?_
  exact retI (out := fun u => [e_PP a, e_Pic a Pic_width Pic_height Pic_stride, e_Rows a Rows_rowLength, e_Out a u.1 u.2.1 u.2.2.1, e_Chk a u.2.2.2.1, e_Pak a u.2.2.2.2.1 u.2.2.2.2.2.1 u.2.2.2.2.2.2.1, e_Fin a u.2.2.2.2.2.2.2.1 u.2.2.2.2.2.2.2.2.1 u.2.2.2.2.2.2.2.2.2.1, e_ar a n cI 8 pb, e_ar a n cI 9 u.2.2.2.2.2.2.2.2.2.2.1, e_ar a n cI 10 u.2.2.2.2.2.2.2.2.2.2.2.1, e_ar a n cI 11 u.2.2.2.2.2.2.2.2.2.2.2.2.1, e_ar a n cI 12 ct, e_ar a n cI 13 u.2.2.2.2.2.2.2.2.2.2.2.2.2.1, e_ar a n cI 14 u.2.2.2.2.2.2.2.2.2.2.2.2.2.2]) (u := (u23.1, u13.2.1, u13.2.2.1, u21.2.1, u13.2.2.2.1, u13.2.2.2.2.1, u13.2.2.2.2.2.1, u13.2.2.2.2.2.2.1, u13.2.2.2.2.2.2.2.1, u13.2.2.2.2.2.2.2.2.1, u1.1, u1.2, u23.2, u13.2.2.2.2.2.2.2.2.2.2.1, u13.2.2.2.2.2.2.2.2.2.2.2)) E hr hlk rfl hw h d_PP_put_98
