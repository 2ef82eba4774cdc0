-- PicturePacker$Picture.has(II)Z
theorem d_Pic_has_0 : decode prog_5_method_2_code 0 = .ok (.iload_n 1, 1) := by decide +kernel
theorem d_Pic_has_1 : decode prog_5_method_2_code 1 = .ok (.ifCond .lt 27, 3) := by decide +kernel
theorem d_Pic_has_4 : decode prog_5_method_2_code 4 = .ok (.iload_n 1, 1) := by decide +kernel
theorem d_Pic_has_5 : decode prog_5_method_2_code 5 = .ok (.aload_n 0, 1) := by decide +kernel
theorem d_Pic_has_6 : decode prog_5_method_2_code 6 = .ok (.getfield 9, 3) := by decide +kernel
theorem d_Pic_has_9 : decode prog_5_method_2_code 9 = .ok (.if_icmp .ge 19, 3) := by decide +kernel
theorem d_Pic_has_12 : decode prog_5_method_2_code 12 = .ok (.iload_n 2, 1) := by decide +kernel
theorem d_Pic_has_13 : decode prog_5_method_2_code 13 = .ok (.ifCond .lt 15, 3) := by decide +kernel
theorem d_Pic_has_16 : decode prog_5_method_2_code 16 = .ok (.iload_n 2, 1) := by decide +kernel
theorem d_Pic_has_17 : decode prog_5_method_2_code 17 = .ok (.aload_n 0, 1) := by decide +kernel
theorem d_Pic_has_18 : decode prog_5_method_2_code 18 = .ok (.getfield 15, 3) := by decide +kernel
theorem d_Pic_has_21 : decode prog_5_method_2_code 21 = .ok (.if_icmp .ge 7, 3) := by decide +kernel
theorem d_Pic_has_24 : decode prog_5_method_2_code 24 = .ok (.iconst 1, 1) := by decide +kernel
theorem d_Pic_has_25 : decode prog_5_method_2_code 25 = .ok (.goto 4, 3) := by decide +kernel
theorem d_Pic_has_28 : decode prog_5_method_2_code 28 = .ok (.iconst 0, 1) := by decide +kernel
theorem d_Pic_has_29 : decode prog_5_method_2_code 29 = .ok (.ireturn, 1) := by decide +kernel
abbrev y_Pic_has : MethodName := ⟨"PicturePacker$Picture", "has", "(II)Z"⟩
def wp_Pic_has (n : Nat → Nat) (Pic_width : Int32) (Pic_height : Int32) (x1 : Int32) (x2 : Int32) (post : Int32 → Unit → Prop) : Prop := ((x1 : Int32) < 0 → (narrow .boolean (.int 0) = .int 0 ∧ post 0 ())) ∧ (¬ ((x1 : Int32) < 0) → (((Pic_width : Int32) ≤ x1 → (narrow .boolean (.int 0) = .int 0 ∧ post 0 ())) ∧ (¬ ((Pic_width : Int32) ≤ x1) → (((x2 : Int32) < 0 → (narrow .boolean (.int 0) = .int 0 ∧ post 0 ())) ∧ (¬ ((x2 : Int32) < 0) → (((Pic_height : Int32) ≤ x2 → (narrow .boolean (.int 0) = .int 0 ∧ post 0 ())) ∧ (¬ ((Pic_height : Int32) ≤ x2) → (narrow .boolean (.int 1) = .int 1 ∧ post 1 ()))))))))
set_option maxHeartbeats 2000000 in
set_option maxRecDepth 20000 in
theorem c_Pic_has {l : Launch} {dC : Nat → ClassId} {dI : Nat → Nat → Nat} {cI : ClassId} {tb : Tbs} {a n : Nat → Nat} {Pic_width : Int32} {Pic_height : Int32} {Pic_stride : Int32} {x1 : Int32} {x2 : Int32} {post : Int32 → Unit → Prop} (h : wp_Pic_has n Pic_width Pic_height x1 x2 post) : CtI classes dC dI cI tb l y_Pic_has prog_5_method_2_code 3 .boolean ({ frames := 0, cells := 0, slots := 0, locals := 0 }) [.ref (a 1), .int x1, .int x2] [e_Pic a Pic_width Pic_height Pic_stride] (Unit) (fun _ => [e_Pic a Pic_width Pic_height Pic_stride]) post := by
  refine startI (by decide) (Nat.le_of_ble_eq_true rfl) ?_
  intro p e s m below meth c ls E hr hlk hnm hl hw
  have hl : lv_has ls 3 [(0, .ref (a 1)), (1, .int x1), (2, .int x2)] := hl
  generalize va_A [e_Pic a Pic_width Pic_height Pic_stride] s.heap.size = A at hw ⊢
  obtain ⟨hx, hb, hml, hown, hts⟩ := id E
  unfold wp_Pic_has at h
  refine lv_iload_n hx hb d_Pic_has_0 rfl (lv_at hl 1 rfl) ?_
  refine lv_if_lt (tgt := 28) hx hb d_Pic_has_1 (by decide) (fun c1 => ?_) (fun c1 => ?_)
  · have h := h.1 c1
    refine lv_iconst (v := 0) hx hb d_Pic_has_28 (by decide) ?_
    exact retI (out := fun u => [e_Pic a Pic_width Pic_height Pic_stride]) (u := ()) E hr hlk h.1 hw h.2 d_Pic_has_29
  · have h := h.2 c1
    refine lv_iload_n hx hb d_Pic_has_4 rfl (lv_at hl 1 rfl) ?_
    refine lv_aload_n hx hb d_Pic_has_5 rfl (lv_at hl 0 rfl) ?_
    refine kget (v := .int Pic_width) (T := F_Pic) E hw in_Pic rfl 0 0 rfl (by decide) tw66 rfl d_Pic_has_6 ?_
    refine lv_icmp_ge (tgt := 28) hx hb d_Pic_has_9 (by decide) (fun c2 => ?_) (fun c2 => ?_)
    · have h := h.1 c2
      refine lv_iconst (v := 0) hx hb d_Pic_has_28 (by decide) ?_
      exact retI (out := fun u => [e_Pic a Pic_width Pic_height Pic_stride]) (u := ()) E hr hlk h.1 hw h.2 d_Pic_has_29
    · have h := h.2 c2
      refine lv_iload_n hx hb d_Pic_has_12 rfl (lv_at hl 2 rfl) ?_
      refine lv_if_lt (tgt := 28) hx hb d_Pic_has_13 (by decide) (fun c3 => ?_) (fun c3 => ?_)
      · have h := h.1 c3
        refine lv_iconst (v := 0) hx hb d_Pic_has_28 (by decide) ?_
        exact retI (out := fun u => [e_Pic a Pic_width Pic_height Pic_stride]) (u := ()) E hr hlk h.1 hw h.2 d_Pic_has_29
      · have h := h.2 c3
        refine lv_iload_n hx hb d_Pic_has_16 rfl (lv_at hl 2 rfl) ?_
        refine lv_aload_n hx hb d_Pic_has_17 rfl (lv_at hl 0 rfl) ?_
        refine kget (v := .int Pic_height) (T := F_Pic) E hw in_Pic rfl 0 1 rfl (by decide) tw69 rfl d_Pic_has_18 ?_
        refine lv_icmp_ge (tgt := 28) hx hb d_Pic_has_21 (by decide) (fun c4 => ?_) (fun c4 => ?_)
        · have h := h.1 c4
          refine lv_iconst (v := 0) hx hb d_Pic_has_28 (by decide) ?_
          exact retI (out := fun u => [e_Pic a Pic_width Pic_height Pic_stride]) (u := ()) E hr hlk h.1 hw h.2 d_Pic_has_29
        · have h := h.2 c4
          refine lv_iconst (v := 1) hx hb d_Pic_has_24 (by decide) ?_
          refine lv_goto (tgt := 29) hx hb d_Pic_has_25 (by decide) ?_
          exact retI (out := fun u => [e_Pic a Pic_width Pic_height Pic_stride]) (u := ()) E hr hlk h.1 hw h.2 d_Pic_has_29
-- PicturePacker$Picture.placeOf(II)I
theorem d_Pic_placeOf_0 : decode prog_5_method_3_code 0 = .ok (.iload_n 2, 1) := by decide +kernel
theorem d_Pic_placeOf_1 : decode prog_5_method_3_code 1 = .ok (.iconst 1, 1) := by decide +kernel
theorem d_Pic_placeOf_2 : decode prog_5_method_3_code 2 = .ok (.iadd, 1) := by decide +kernel
theorem d_Pic_placeOf_3 : decode prog_5_method_3_code 3 = .ok (.aload_n 0, 1) := by decide +kernel
theorem d_Pic_placeOf_4 : decode prog_5_method_3_code 4 = .ok (.getfield 18, 3) := by decide +kernel
theorem d_Pic_placeOf_7 : decode prog_5_method_3_code 7 = .ok (.imul, 1) := by decide +kernel
theorem d_Pic_placeOf_8 : decode prog_5_method_3_code 8 = .ok (.iconst 3, 1) := by decide +kernel
theorem d_Pic_placeOf_9 : decode prog_5_method_3_code 9 = .ok (.iload_n 1, 1) := by decide +kernel
theorem d_Pic_placeOf_10 : decode prog_5_method_3_code 10 = .ok (.iconst 1, 1) := by decide +kernel
theorem d_Pic_placeOf_11 : decode prog_5_method_3_code 11 = .ok (.iadd, 1) := by decide +kernel
theorem d_Pic_placeOf_12 : decode prog_5_method_3_code 12 = .ok (.imul, 1) := by decide +kernel
theorem d_Pic_placeOf_13 : decode prog_5_method_3_code 13 = .ok (.iadd, 1) := by decide +kernel
theorem d_Pic_placeOf_14 : decode prog_5_method_3_code 14 = .ok (.ireturn, 1) := by decide +kernel
abbrev y_Pic_placeOf : MethodName := ⟨"PicturePacker$Picture", "placeOf", "(II)I"⟩
def wp_Pic_placeOf (n : Nat → Nat) (Pic_stride : Int32) (x1 : Int32) (x2 : Int32) (post : Int32 → Unit → Prop) : Prop := post (((x2 + 1) * Pic_stride) + (3 * (x1 + 1))) ()
set_option maxHeartbeats 2000000 in
set_option maxRecDepth 20000 in
theorem c_Pic_placeOf {l : Launch} {dC : Nat → ClassId} {dI : Nat → Nat → Nat} {cI : ClassId} {tb : Tbs} {a n : Nat → Nat} {Pic_width : Int32} {Pic_height : Int32} {Pic_stride : Int32} {x1 : Int32} {x2 : Int32} {post : Int32 → Unit → Prop} (h : wp_Pic_placeOf n Pic_stride x1 x2 post) : CtI classes dC dI cI tb l y_Pic_placeOf prog_5_method_3_code 3 .int ({ frames := 0, cells := 0, slots := 0, locals := 0 }) [.ref (a 1), .int x1, .int x2] [e_Pic a Pic_width Pic_height Pic_stride] (Unit) (fun _ => [e_Pic a Pic_width Pic_height Pic_stride]) post := by
  refine startI (by decide) (Nat.le_of_ble_eq_true rfl) ?_
  intro p e s m below meth c ls E hr hlk hnm hl hw
  have hl : lv_has ls 3 [(0, .ref (a 1)), (1, .int x1), (2, .int x2)] := hl
  generalize va_A [e_Pic a Pic_width Pic_height Pic_stride] s.heap.size = A at hw ⊢
  obtain ⟨hx, hb, hml, hown, hts⟩ := id E
  unfold wp_Pic_placeOf at h
  refine lv_iload_n hx hb d_Pic_placeOf_0 rfl (lv_at hl 2 rfl) ?_
  refine lv_iconst (v := 1) hx hb d_Pic_placeOf_1 (by decide) ?_
  refine lv_iadd hx hb d_Pic_placeOf_2 ?_
  refine lv_aload_n hx hb d_Pic_placeOf_3 rfl (lv_at hl 0 rfl) ?_
  refine kget (v := .int Pic_stride) (T := F_Pic) E hw in_Pic rfl 0 2 rfl (by decide) tw72 rfl d_Pic_placeOf_4 ?_
  refine lv_imul hx hb d_Pic_placeOf_7 ?_
  refine lv_iconst (v := 3) hx hb d_Pic_placeOf_8 (by decide) ?_
  refine lv_iload_n hx hb d_Pic_placeOf_9 rfl (lv_at hl 1 rfl) ?_
  refine lv_iconst (v := 1) hx hb d_Pic_placeOf_10 (by decide) ?_
  refine lv_iadd hx hb d_Pic_placeOf_11 ?_
  refine lv_imul hx hb d_Pic_placeOf_12 ?_
  refine lv_iadd hx hb d_Pic_placeOf_13 ?_
  exact retI (out := fun u => [e_Pic a Pic_width Pic_height Pic_stride]) (u := ()) E hr hlk rfl hw h d_Pic_placeOf_14
-- PicturePacker$Picture.paint(III)V
theorem d_Pic_paint_0 : decode prog_5_method_4_code 0 = .ok (.aload_n 0, 1) := by decide +kernel
theorem d_Pic_paint_1 : decode prog_5_method_4_code 1 = .ok (.iload_n 1, 1) := by decide +kernel
theorem d_Pic_paint_2 : decode prog_5_method_4_code 2 = .ok (.iload_n 2, 1) := by decide +kernel
theorem d_Pic_paint_3 : decode prog_5_method_4_code 3 = .ok (.invokevirtual 25, 3) := by decide +kernel
theorem d_Pic_paint_6 : decode prog_5_method_4_code 6 = .ok (.istore 4, 2) := by decide +kernel
theorem d_Pic_paint_8 : decode prog_5_method_4_code 8 = .ok (.iload 4, 2) := by decide +kernel
theorem d_Pic_paint_10 : decode prog_5_method_4_code 10 = .ok (.ifCond .lt 61, 3) := by decide +kernel
theorem d_Pic_paint_13 : decode prog_5_method_4_code 13 = .ok (.iload 4, 2) := by decide +kernel
theorem d_Pic_paint_15 : decode prog_5_method_4_code 15 = .ok (.aload_n 0, 1) := by decide +kernel
theorem d_Pic_paint_16 : decode prog_5_method_4_code 16 = .ok (.getfield 21, 3) := by decide +kernel
theorem d_Pic_paint_19 : decode prog_5_method_4_code 19 = .ok (.arraylength, 1) := by decide +kernel
theorem d_Pic_paint_20 : decode prog_5_method_4_code 20 = .ok (.iconst 2, 1) := by decide +kernel
theorem d_Pic_paint_21 : decode prog_5_method_4_code 21 = .ok (.isub, 1) := by decide +kernel
theorem d_Pic_paint_22 : decode prog_5_method_4_code 22 = .ok (.if_icmp .ge 49, 3) := by decide +kernel
theorem d_Pic_paint_25 : decode prog_5_method_4_code 25 = .ok (.aload_n 0, 1) := by decide +kernel
theorem d_Pic_paint_26 : decode prog_5_method_4_code 26 = .ok (.getfield 21, 3) := by decide +kernel
theorem d_Pic_paint_29 : decode prog_5_method_4_code 29 = .ok (.iload 4, 2) := by decide +kernel
theorem d_Pic_paint_31 : decode prog_5_method_4_code 31 = .ok (.iload_n 3, 1) := by decide +kernel
theorem d_Pic_paint_32 : decode prog_5_method_4_code 32 = .ok (.bipush 16, 2) := by decide +kernel
theorem d_Pic_paint_34 : decode prog_5_method_4_code 34 = .ok (.ishr, 1) := by decide +kernel
theorem d_Pic_paint_35 : decode prog_5_method_4_code 35 = .ok (.sipush 255, 3) := by decide +kernel
theorem d_Pic_paint_38 : decode prog_5_method_4_code 38 = .ok (.iand, 1) := by decide +kernel
theorem d_Pic_paint_39 : decode prog_5_method_4_code 39 = .ok (.iastore, 1) := by decide +kernel
theorem d_Pic_paint_40 : decode prog_5_method_4_code 40 = .ok (.aload_n 0, 1) := by decide +kernel
theorem d_Pic_paint_41 : decode prog_5_method_4_code 41 = .ok (.getfield 21, 3) := by decide +kernel
theorem d_Pic_paint_44 : decode prog_5_method_4_code 44 = .ok (.iload 4, 2) := by decide +kernel
theorem d_Pic_paint_46 : decode prog_5_method_4_code 46 = .ok (.iconst 1, 1) := by decide +kernel
theorem d_Pic_paint_47 : decode prog_5_method_4_code 47 = .ok (.iadd, 1) := by decide +kernel
theorem d_Pic_paint_48 : decode prog_5_method_4_code 48 = .ok (.iload_n 3, 1) := by decide +kernel
theorem d_Pic_paint_49 : decode prog_5_method_4_code 49 = .ok (.bipush 8, 2) := by decide +kernel
theorem d_Pic_paint_51 : decode prog_5_method_4_code 51 = .ok (.ishr, 1) := by decide +kernel
theorem d_Pic_paint_52 : decode prog_5_method_4_code 52 = .ok (.sipush 255, 3) := by decide +kernel
theorem d_Pic_paint_55 : decode prog_5_method_4_code 55 = .ok (.iand, 1) := by decide +kernel
theorem d_Pic_paint_56 : decode prog_5_method_4_code 56 = .ok (.iastore, 1) := by decide +kernel
theorem d_Pic_paint_57 : decode prog_5_method_4_code 57 = .ok (.aload_n 0, 1) := by decide +kernel
theorem d_Pic_paint_58 : decode prog_5_method_4_code 58 = .ok (.getfield 21, 3) := by decide +kernel
theorem d_Pic_paint_61 : decode prog_5_method_4_code 61 = .ok (.iload 4, 2) := by decide +kernel
theorem d_Pic_paint_63 : decode prog_5_method_4_code 63 = .ok (.iconst 2, 1) := by decide +kernel
theorem d_Pic_paint_64 : decode prog_5_method_4_code 64 = .ok (.iadd, 1) := by decide +kernel
theorem d_Pic_paint_65 : decode prog_5_method_4_code 65 = .ok (.iload_n 3, 1) := by decide +kernel
theorem d_Pic_paint_66 : decode prog_5_method_4_code 66 = .ok (.sipush 255, 3) := by decide +kernel
theorem d_Pic_paint_69 : decode prog_5_method_4_code 69 = .ok (.iand, 1) := by decide +kernel
theorem d_Pic_paint_70 : decode prog_5_method_4_code 70 = .ok (.iastore, 1) := by decide +kernel
theorem d_Pic_paint_71 : decode prog_5_method_4_code 71 = .ok (.return_, 1) := by decide +kernel
abbrev y_Pic_paint : MethodName := ⟨"PicturePacker$Picture", "paint", "(III)V"⟩
def wp_Pic_paint (n : Nat → Nat) (Pic_stride : Int32) (pb : Nat → Int32) (x1 : Int32) (x2 : Int32) (x3 : Int32) (post : ((Nat → Int32)) → Prop) : Prop := wp_Pic_placeOf n Pic_stride x1 x2 (fun r2 _ => ((r2 : Int32) < 0 → (post pb)) ∧ (¬ ((r2 : Int32) < 0) → ((((nI (n 8)) - 2 : Int32) ≤ r2 → (post pb)) ∧ (¬ (((nI (n 8)) - 2 : Int32) ≤ r2) → (∀ z5 : Int32, z5 = (((x3 : Int32) >>> (16 &&& 31)) &&& 255) → (vp_in r2 (n 8) ∧ (∀ f7 : Nat → Int32, f7 = upd pb (r2 : Int32).toNatClampNeg z5 → (∀ z8 : Int32, z8 = (((x3 : Int32) >>> (8 &&& 31)) &&& 255) → (vp_in (r2 + 1) (n 8) ∧ (∀ f10 : Nat → Int32, f10 = upd f7 (r2 + 1 : Int32).toNatClampNeg z8 → (∀ z11 : Int32, z11 = (x3 &&& 255) → (vp_in (r2 + 2) (n 8) ∧ (∀ f13 : Nat → Int32, f13 = upd f10 (r2 + 2 : Int32).toNatClampNeg z11 → (post f13))))))))))))))
set_option maxHeartbeats 2000000 in
set_option maxRecDepth 20000 in
theorem c_Pic_paint {l : Launch} {dC : Nat → ClassId} {dI : Nat → Nat → Nat} {cI : ClassId} {tb : Tbs} {a n : Nat → Nat} {Pic_width : Int32} {Pic_height : Int32} {Pic_stride : Int32} {pb : Nat → Int32} {x1 : Int32} {x2 : Int32} {x3 : Int32} {post : ((Nat → Int32)) → Prop} (h : wp_Pic_paint n Pic_stride pb x1 x2 x3 post) : CtV classes dC dI cI tb l y_Pic_paint prog_5_method_4_code 5 ({ frames := 1, cells := 0, slots := 0, locals := 22 }) [.ref (a 1), .int x1, .int x2, .int x3] [e_Pic a Pic_width Pic_height Pic_stride, e_ar a n cI 8 pb] ((Nat → Int32)) (fun u => [e_Pic a Pic_width Pic_height Pic_stride, e_ar a n cI 8 u]) post := by
  refine startV (by decide) (Nat.le_of_ble_eq_true rfl) ?_
  intro p e s m below meth c ls E hr hlk hnm hl hw
  have hl : lv_has ls 5 [(0, .ref (a 1)), (1, .int x1), (2, .int x2), (3, .int x3)] := hl
  generalize va_A [e_Pic a Pic_width Pic_height Pic_stride, e_ar a n cI 8 pb] s.heap.size = A at hw ⊢
  obtain ⟨hx, hb, hml, hown, hts⟩ := id E
  unfold wp_Pic_paint at h
  refine lv_aload_n hx hb d_Pic_paint_0 rfl (lv_at hl 0 rfl) ?_
  refine lv_iload_n hx hb d_Pic_paint_1 rfl (lv_at hl 1 rfl) ?_
  refine lv_iload_n hx hb d_Pic_paint_2 rfl (lv_at hl 2 rfl) ?_
  refine kVi (y := y_Pic_placeOf) (ws' := fun _ => [e_Pic a Pic_width Pic_height Pic_stride, e_ar a n cI 8 pb]) (wr := [e_ar a n cI 8 pb]) (As := [.int x1, .int x2]) (rest := []) E hw (c_Pic_placeOf (l := l) (dC := dC) (dI := dI) (cI := cI) (tb := tb) (a := a) (n := n) (Pic_width := Pic_width) (Pic_height := Pic_height) (Pic_stride := Pic_stride) (x1 := x1) (x2 := x2) h) tw237 tw238 tw239 tw34 tw240 2 (by decide) ⟨Nat.le_of_ble_eq_true rfl, Nat.le_of_ble_eq_true rfl⟩ ⟨Nat.le_of_ble_eq_true rfl, Nat.le_of_ble_eq_true rfl⟩ ⟨rfl, rfl⟩ rfl rfl 0 rfl [0] [1] [1, 0] rfl rfl rfl rfl (by decide) rfl (fun _ => rfl) hl.1 rfl rfl (Nat.le_of_ble_eq_true rfl) d_Pic_paint_3 (fun r2 u1 H locs h hw => ?_)
  refine lv_istore (lv' := [(4, .int r2), (0, .ref (a 1)), (1, .int x1), (2, .int x2), (3, .int x3)]) hx hb d_Pic_paint_6 hl (by decide) rfl (fun ls hl => ?_)
  refine lv_iload hx hb d_Pic_paint_8 (lv_at hl 0 rfl) ?_
  refine lv_if_lt (tgt := 71) hx hb d_Pic_paint_10 (by decide) (fun c3 => ?_) (fun c3 => ?_)
  · have h := h.1 c3
    exact retV (out := fun u => [e_Pic a Pic_width Pic_height Pic_stride, e_ar a n cI 8 u]) (u := pb) E hr hlk hw h d_Pic_paint_71
  · have h := h.2 c3
    refine lv_iload hx hb d_Pic_paint_13 (lv_at hl 0 rfl) ?_
    refine lv_aload_n hx hb d_Pic_paint_15 rfl (lv_at hl 1 rfl) ?_
    refine kget (v := .ref (a 8)) (T := F_Pic) E hw in_Pic rfl 0 3 rfl (by decide) tw73 rfl d_Pic_paint_16 ?_
    refine kalen E hw 1 rfl d_Pic_paint_19 ?_
    refine lv_iconst (v := 2) hx hb d_Pic_paint_20 (by decide) ?_
    refine lv_isub hx hb d_Pic_paint_21 ?_
    refine lv_icmp_ge (tgt := 71) hx hb d_Pic_paint_22 (by decide) (fun c4 => ?_) (fun c4 => ?_)
    · have h := h.1 c4
      exact retV (out := fun u => [e_Pic a Pic_width Pic_height Pic_stride, e_ar a n cI 8 u]) (u := pb) E hr hlk hw h d_Pic_paint_71
    · have h := h.2 c4
      refine lv_aload_n hx hb d_Pic_paint_25 rfl (lv_at hl 1 rfl) ?_
      refine kget (v := .ref (a 8)) (T := F_Pic) E hw in_Pic rfl 0 3 rfl (by decide) tw73 rfl d_Pic_paint_26 ?_
      refine lv_iload hx hb d_Pic_paint_29 (lv_at hl 0 rfl) ?_
      refine lv_iload_n hx hb d_Pic_paint_31 rfl (lv_at hl 4 rfl) ?_
      refine lv_bipush (v := 16) hx hb d_Pic_paint_32 (by decide) ?_
      refine lv_ishr hx hb d_Pic_paint_34 ?_
      refine lv_sipush (v := 255) hx hb d_Pic_paint_35 (by decide) ?_
      refine lv_iand hx hb d_Pic_paint_38 ?_
      refine lv_topi (fun z5 ez5 => ?_)
      have h := h z5 ez5
      obtain ⟨b6, h⟩ := h
      obtain ⟨f7, ef7⟩ : ∃ z : Nat → Int32, z = upd pb (r2 : Int32).toNatClampNeg z5 := ⟨_, rfl⟩
      have h := h f7 ef7
      refine kast (ws' := [e_Pic a Pic_width Pic_height Pic_stride, e_ar a n cI 8 f7]) E hw 1 rfl b6 (by rw [ef7]; rfl) d_Pic_paint_39 (fun H locs hw => ?_)
      refine lv_aload_n hx hb d_Pic_paint_40 rfl (lv_at hl 1 rfl) ?_
      refine kget (v := .ref (a 8)) (T := F_Pic) E hw in_Pic rfl 0 3 rfl (by decide) tw73 rfl d_Pic_paint_41 ?_
      refine lv_iload hx hb d_Pic_paint_44 (lv_at hl 0 rfl) ?_
      refine lv_iconst (v := 1) hx hb d_Pic_paint_46 (by decide) ?_
      refine lv_iadd hx hb d_Pic_paint_47 ?_
      refine lv_iload_n hx hb d_Pic_paint_48 rfl (lv_at hl 4 rfl) ?_
      refine lv_bipush (v := 8) hx hb d_Pic_paint_49 (by decide) ?_
      refine lv_ishr hx hb d_Pic_paint_51 ?_
      refine lv_sipush (v := 255) hx hb d_Pic_paint_52 (by decide) ?_
      refine lv_iand hx hb d_Pic_paint_55 ?_
      refine lv_topi (fun z8 ez8 => ?_)
      have h := h z8 ez8
      obtain ⟨b9, h⟩ := h
      obtain ⟨f10, ef10⟩ : ∃ z : Nat → Int32, z = upd f7 (r2 + 1 : Int32).toNatClampNeg z8 := ⟨_, rfl⟩
      have h := h f10 ef10
      refine kast (ws' := [e_Pic a Pic_width Pic_height Pic_stride, e_ar a n cI 8 f10]) E hw 1 rfl b9 (by rw [ef10]; rfl) d_Pic_paint_56 (fun H locs hw => ?_)
      refine lv_aload_n hx hb d_Pic_paint_57 rfl (lv_at hl 1 rfl) ?_
      refine kget (v := .ref (a 8)) (T := F_Pic) E hw in_Pic rfl 0 3 rfl (by decide) tw73 rfl d_Pic_paint_58 ?_
      refine lv_iload hx hb d_Pic_paint_61 (lv_at hl 0 rfl) ?_
      refine lv_iconst (v := 2) hx hb d_Pic_paint_63 (by decide) ?_
      refine lv_iadd hx hb d_Pic_paint_64 ?_
      refine lv_iload_n hx hb d_Pic_paint_65 rfl (lv_at hl 4 rfl) ?_
      refine lv_sipush (v := 255) hx hb d_Pic_paint_66 (by decide) ?_
      refine lv_iand hx hb d_Pic_paint_69 ?_
      refine lv_topi (fun z11 ez11 => ?_)
      have h := h z11 ez11
      obtain ⟨b12, h⟩ := h
      obtain ⟨f13, ef13⟩ : ∃ z : Nat → Int32, z = upd f10 (r2 + 2 : Int32).toNatClampNeg z11 := ⟨_, rfl⟩
      have h := h f13 ef13
      refine kast (ws' := [e_Pic a Pic_width Pic_height Pic_stride, e_ar a n cI 8 f13]) E hw 1 rfl b12 (by rw [ef13]; rfl) d_Pic_paint_70 (fun H locs hw => ?_)
      exact retV (out := fun u => [e_Pic a Pic_width Pic_height Pic_stride, e_ar a n cI 8 u]) (u := f13) E hr hlk hw h d_Pic_paint_71
-- PicturePacker$Picture.colourOf(II)I
theorem d_Pic_colourOf_0 : decode prog_5_method_5_code 0 = .ok (.aload_n 0, 1) := by decide +kernel
theorem d_Pic_colourOf_1 : decode prog_5_method_5_code 1 = .ok (.iload_n 1, 1) := by decide +kernel
theorem d_Pic_colourOf_2 : decode prog_5_method_5_code 2 = .ok (.iload_n 2, 1) := by decide +kernel
theorem d_Pic_colourOf_3 : decode prog_5_method_5_code 3 = .ok (.invokevirtual 25, 3) := by decide +kernel
theorem d_Pic_colourOf_6 : decode prog_5_method_5_code 6 = .ok (.istore_n 3, 1) := by decide +kernel
theorem d_Pic_colourOf_7 : decode prog_5_method_5_code 7 = .ok (.iload_n 3, 1) := by decide +kernel
theorem d_Pic_colourOf_8 : decode prog_5_method_5_code 8 = .ok (.ifCond .lt 14, 3) := by decide +kernel
theorem d_Pic_colourOf_11 : decode prog_5_method_5_code 11 = .ok (.iload_n 3, 1) := by decide +kernel
theorem d_Pic_colourOf_12 : decode prog_5_method_5_code 12 = .ok (.aload_n 0, 1) := by decide +kernel
theorem d_Pic_colourOf_13 : decode prog_5_method_5_code 13 = .ok (.getfield 21, 3) := by decide +kernel
theorem d_Pic_colourOf_16 : decode prog_5_method_5_code 16 = .ok (.arraylength, 1) := by decide +kernel
theorem d_Pic_colourOf_17 : decode prog_5_method_5_code 17 = .ok (.iconst 2, 1) := by decide +kernel
theorem d_Pic_colourOf_18 : decode prog_5_method_5_code 18 = .ok (.isub, 1) := by decide +kernel
theorem d_Pic_colourOf_19 : decode prog_5_method_5_code 19 = .ok (.if_icmp .lt 5, 3) := by decide +kernel
theorem d_Pic_colourOf_22 : decode prog_5_method_5_code 22 = .ok (.iconst (-1), 1) := by decide +kernel
theorem d_Pic_colourOf_23 : decode prog_5_method_5_code 23 = .ok (.ireturn, 1) := by decide +kernel
theorem d_Pic_colourOf_24 : decode prog_5_method_5_code 24 = .ok (.aload_n 0, 1) := by decide +kernel
theorem d_Pic_colourOf_25 : decode prog_5_method_5_code 25 = .ok (.getfield 21, 3) := by decide +kernel
theorem d_Pic_colourOf_28 : decode prog_5_method_5_code 28 = .ok (.iload_n 3, 1) := by decide +kernel
theorem d_Pic_colourOf_29 : decode prog_5_method_5_code 29 = .ok (.iaload, 1) := by decide +kernel
theorem d_Pic_colourOf_30 : decode prog_5_method_5_code 30 = .ok (.bipush 16, 2) := by decide +kernel
theorem d_Pic_colourOf_32 : decode prog_5_method_5_code 32 = .ok (.ishl, 1) := by decide +kernel
theorem d_Pic_colourOf_33 : decode prog_5_method_5_code 33 = .ok (.aload_n 0, 1) := by decide +kernel
theorem d_Pic_colourOf_34 : decode prog_5_method_5_code 34 = .ok (.getfield 21, 3) := by decide +kernel
theorem d_Pic_colourOf_37 : decode prog_5_method_5_code 37 = .ok (.iload_n 3, 1) := by decide +kernel
theorem d_Pic_colourOf_38 : decode prog_5_method_5_code 38 = .ok (.iconst 1, 1) := by decide +kernel
theorem d_Pic_colourOf_39 : decode prog_5_method_5_code 39 = .ok (.iadd, 1) := by decide +kernel
theorem d_Pic_colourOf_40 : decode prog_5_method_5_code 40 = .ok (.iaload, 1) := by decide +kernel
theorem d_Pic_colourOf_41 : decode prog_5_method_5_code 41 = .ok (.bipush 8, 2) := by decide +kernel
theorem d_Pic_colourOf_43 : decode prog_5_method_5_code 43 = .ok (.ishl, 1) := by decide +kernel
theorem d_Pic_colourOf_44 : decode prog_5_method_5_code 44 = .ok (.ior, 1) := by decide +kernel
theorem d_Pic_colourOf_45 : decode prog_5_method_5_code 45 = .ok (.aload_n 0, 1) := by decide +kernel
theorem d_Pic_colourOf_46 : decode prog_5_method_5_code 46 = .ok (.getfield 21, 3) := by decide +kernel
theorem d_Pic_colourOf_49 : decode prog_5_method_5_code 49 = .ok (.iload_n 3, 1) := by decide +kernel
theorem d_Pic_colourOf_50 : decode prog_5_method_5_code 50 = .ok (.iconst 2, 1) := by decide +kernel
theorem d_Pic_colourOf_51 : decode prog_5_method_5_code 51 = .ok (.iadd, 1) := by decide +kernel
theorem d_Pic_colourOf_52 : decode prog_5_method_5_code 52 = .ok (.iaload, 1) := by decide +kernel
theorem d_Pic_colourOf_53 : decode prog_5_method_5_code 53 = .ok (.ior, 1) := by decide +kernel
theorem d_Pic_colourOf_54 : decode prog_5_method_5_code 54 = .ok (.ireturn, 1) := by decide +kernel
abbrev y_Pic_colourOf : MethodName := ⟨"PicturePacker$Picture", "colourOf", "(II)I"⟩
def wp_Pic_colourOf (n : Nat → Nat) (Pic_stride : Int32) (pb : Nat → Int32) (x1 : Int32) (x2 : Int32) (post : Int32 → Unit → Prop) : Prop := wp_Pic_placeOf n Pic_stride x1 x2 (fun r2 _ => ((r2 : Int32) < 0 → (post ((-1)) ())) ∧ (¬ ((r2 : Int32) < 0) → (((r2 : Int32) < ((nI (n 8)) - 2) → (vp_in r2 (n 8) ∧ (vp_in (r2 + 1) (n 8) ∧ (vp_in (r2 + 2) (n 8) ∧ (post ((((pb (r2 : Int32).toNatClampNeg : Int32) <<< (16 &&& 31)) ||| ((pb (r2 + 1 : Int32).toNatClampNeg : Int32) <<< (8 &&& 31))) ||| (pb (r2 + 2 : Int32).toNatClampNeg)) ()))))) ∧ (¬ ((r2 : Int32) < ((nI (n 8)) - 2)) → (post ((-1)) ())))))
set_option maxHeartbeats 2000000 in
set_option maxRecDepth 20000 in
theorem c_Pic_colourOf {l : Launch} {dC : Nat → ClassId} {dI : Nat → Nat → Nat} {cI : ClassId} {tb : Tbs} {a n : Nat → Nat} {Pic_width : Int32} {Pic_height : Int32} {Pic_stride : Int32} {pb : Nat → Int32} {x1 : Int32} {x2 : Int32} {post : Int32 → Unit → Prop} (h : wp_Pic_colourOf n Pic_stride pb x1 x2 post) : CtI classes dC dI cI tb l y_Pic_colourOf prog_5_method_5_code 4 .int ({ frames := 1, cells := 0, slots := 0, locals := 22 }) [.ref (a 1), .int x1, .int x2] [e_Pic a Pic_width Pic_height Pic_stride, e_ar a n cI 8 pb] (Unit) (fun _ => [e_Pic a Pic_width Pic_height Pic_stride, e_ar a n cI 8 pb]) post := by
  refine startI (by decide) (Nat.le_of_ble_eq_true rfl) ?_
  intro p e s m below meth c ls E hr hlk hnm hl hw
  have hl : lv_has ls 4 [(0, .ref (a 1)), (1, .int x1), (2, .int x2)] := hl
  generalize va_A [e_Pic a Pic_width Pic_height Pic_stride, e_ar a n cI 8 pb] s.heap.size = A at hw ⊢
  obtain ⟨hx, hb, hml, hown, hts⟩ := id E
  unfold wp_Pic_colourOf at h
  refine lv_aload_n hx hb d_Pic_colourOf_0 rfl (lv_at hl 0 rfl) ?_
  refine lv_iload_n hx hb d_Pic_colourOf_1 rfl (lv_at hl 1 rfl) ?_
  refine lv_iload_n hx hb d_Pic_colourOf_2 rfl (lv_at hl 2 rfl) ?_
  refine kVi (y := y_Pic_placeOf) (ws' := fun _ => [e_Pic a Pic_width Pic_height Pic_stride, e_ar a n cI 8 pb]) (wr := [e_ar a n cI 8 pb]) (As := [.int x1, .int x2]) (rest := []) E hw (c_Pic_placeOf (l := l) (dC := dC) (dI := dI) (cI := cI) (tb := tb) (a := a) (n := n) (Pic_width := Pic_width) (Pic_height := Pic_height) (Pic_stride := Pic_stride) (x1 := x1) (x2 := x2) h) tw237 tw238 tw239 tw34 tw240 2 (by decide) ⟨Nat.le_of_ble_eq_true rfl, Nat.le_of_ble_eq_true rfl⟩ ⟨Nat.le_of_ble_eq_true rfl, Nat.le_of_ble_eq_true rfl⟩ ⟨rfl, rfl⟩ rfl rfl 0 rfl [0] [1] [1, 0] rfl rfl rfl rfl (by decide) rfl (fun _ => rfl) hl.1 rfl rfl (Nat.le_of_ble_eq_true rfl) d_Pic_colourOf_3 (fun r2 u1 H locs h hw => ?_)
  refine lv_istore_n (lv' := [(3, .int r2), (0, .ref (a 1)), (1, .int x1), (2, .int x2)]) hx hb d_Pic_colourOf_6 rfl hl (by decide) rfl (fun ls hl => ?_)
  refine lv_iload_n hx hb d_Pic_colourOf_7 rfl (lv_at hl 0 rfl) ?_
  refine lv_if_lt (tgt := 22) hx hb d_Pic_colourOf_8 (by decide) (fun c3 => ?_) (fun c3 => ?_)
  · have h := h.1 c3
    refine lv_iconst (v := (-1)) hx hb d_Pic_colourOf_22 (by decide) ?_
    exact retI (out := fun u => [e_Pic a Pic_width Pic_height Pic_stride, e_ar a n cI 8 pb]) (u := ()) E hr hlk rfl hw h d_Pic_colourOf_23
  · have h := h.2 c3
    refine lv_iload_n hx hb d_Pic_colourOf_11 rfl (lv_at hl 0 rfl) ?_
    refine lv_aload_n hx hb d_Pic_colourOf_12 rfl (lv_at hl 1 rfl) ?_
    refine kget (v := .ref (a 8)) (T := F_Pic) E hw in_Pic rfl 0 3 rfl (by decide) tw73 rfl d_Pic_colourOf_13 ?_
    refine kalen E hw 1 rfl d_Pic_colourOf_16 ?_
    refine lv_iconst (v := 2) hx hb d_Pic_colourOf_17 (by decide) ?_
    refine lv_isub hx hb d_Pic_colourOf_18 ?_
    refine lv_icmp_lt (tgt := 24) hx hb d_Pic_colourOf_19 (by decide) (fun c4 => ?_) (fun c4 => ?_)
    · have h := h.1 c4
      refine lv_aload_n hx hb d_Pic_colourOf_24 rfl (lv_at hl 1 rfl) ?_
      refine kget (v := .ref (a 8)) (T := F_Pic) E hw in_Pic rfl 0 3 rfl (by decide) tw73 rfl d_Pic_colourOf_25 ?_
      refine lv_iload_n hx hb d_Pic_colourOf_28 rfl (lv_at hl 0 rfl) ?_
      obtain ⟨b5, h⟩ := h
      refine kald E hw 1 rfl b5 d_Pic_colourOf_29 ?_
      refine lv_bipush (v := 16) hx hb d_Pic_colourOf_30 (by decide) ?_
      refine lv_ishl hx hb d_Pic_colourOf_32 ?_
      refine lv_aload_n hx hb d_Pic_colourOf_33 rfl (lv_at hl 1 rfl) ?_
      refine kget (v := .ref (a 8)) (T := F_Pic) E hw in_Pic rfl 0 3 rfl (by decide) tw73 rfl d_Pic_colourOf_34 ?_
      refine lv_iload_n hx hb d_Pic_colourOf_37 rfl (lv_at hl 0 rfl) ?_
      refine lv_iconst (v := 1) hx hb d_Pic_colourOf_38 (by decide) ?_
      refine lv_iadd hx hb d_Pic_colourOf_39 ?_
      obtain ⟨b6, h⟩ := h
      refine kald E hw 1 rfl b6 d_Pic_colourOf_40 ?_
      refine lv_bipush (v := 8) hx hb d_Pic_colourOf_41 (by decide) ?_
      refine lv_ishl hx hb d_Pic_colourOf_43 ?_
      refine lv_ior hx hb d_Pic_colourOf_44 ?_
      refine lv_aload_n hx hb d_Pic_colourOf_45 rfl (lv_at hl 1 rfl) ?_
      refine kget (v := .ref (a 8)) (T := F_Pic) E hw in_Pic rfl 0 3 rfl (by decide) tw73 rfl d_Pic_colourOf_46 ?_
      refine lv_iload_n hx hb d_Pic_colourOf_49 rfl (lv_at hl 0 rfl) ?_
      refine lv_iconst (v := 2) hx hb d_Pic_colourOf_50 (by decide) ?_
      refine lv_iadd hx hb d_Pic_colourOf_51 ?_
      obtain ⟨b7, h⟩ := h
      refine kald E hw 1 rfl b7 d_Pic_colourOf_52 ?_
      refine lv_ior hx hb d_Pic_colourOf_53 ?_
      exact retI (out := fun u => [e_Pic a Pic_width Pic_height Pic_stride, e_ar a n cI 8 pb]) (u := ()) E hr hlk rfl hw h d_Pic_colourOf_54
    · have h := h.2 c4
      refine lv_iconst (v := (-1)) hx hb d_Pic_colourOf_22 (by decide) ?_
      exact retI (out := fun u => [e_Pic a Pic_width Pic_height Pic_stride, e_ar a n cI 8 pb]) (u := ()) E hr hlk rfl hw h d_Pic_colourOf_23
-- PicturePacker$Picture.nearest(III)I
theorem d_Pic_nearest_0 : decode prog_5_method_8_code 0 = .ok (.iload_n 0, 1) := by decide +kernel
theorem d_Pic_nearest_1 : decode prog_5_method_8_code 1 = .ok (.iload_n 1, 1) := by decide +kernel
theorem d_Pic_nearest_2 : decode prog_5_method_8_code 2 = .ok (.iadd, 1) := by decide +kernel
theorem d_Pic_nearest_3 : decode prog_5_method_8_code 3 = .ok (.iload_n 2, 1) := by decide +kernel
theorem d_Pic_nearest_4 : decode prog_5_method_8_code 4 = .ok (.isub, 1) := by decide +kernel
theorem d_Pic_nearest_5 : decode prog_5_method_8_code 5 = .ok (.istore_n 3, 1) := by decide +kernel
theorem d_Pic_nearest_6 : decode prog_5_method_8_code 6 = .ok (.iload_n 3, 1) := by decide +kernel
theorem d_Pic_nearest_7 : decode prog_5_method_8_code 7 = .ok (.iload_n 0, 1) := by decide +kernel
theorem d_Pic_nearest_8 : decode prog_5_method_8_code 8 = .ok (.isub, 1) := by decide +kernel
theorem d_Pic_nearest_9 : decode prog_5_method_8_code 9 = .ok (.invokestatic 37, 3) := by decide +kernel
theorem d_Pic_nearest_12 : decode prog_5_method_8_code 12 = .ok (.istore 4, 2) := by decide +kernel
theorem d_Pic_nearest_14 : decode prog_5_method_8_code 14 = .ok (.iload_n 3, 1) := by decide +kernel
theorem d_Pic_nearest_15 : decode prog_5_method_8_code 15 = .ok (.iload_n 1, 1) := by decide +kernel
theorem d_Pic_nearest_16 : decode prog_5_method_8_code 16 = .ok (.isub, 1) := by decide +kernel
theorem d_Pic_nearest_17 : decode prog_5_method_8_code 17 = .ok (.invokestatic 37, 3) := by decide +kernel
theorem d_Pic_nearest_20 : decode prog_5_method_8_code 20 = .ok (.istore 5, 2) := by decide +kernel
theorem d_Pic_nearest_22 : decode prog_5_method_8_code 22 = .ok (.iload_n 3, 1) := by decide +kernel
theorem d_Pic_nearest_23 : decode prog_5_method_8_code 23 = .ok (.iload_n 2, 1) := by decide +kernel
theorem d_Pic_nearest_24 : decode prog_5_method_8_code 24 = .ok (.isub, 1) := by decide +kernel
theorem d_Pic_nearest_25 : decode prog_5_method_8_code 25 = .ok (.invokestatic 37, 3) := by decide +kernel
theorem d_Pic_nearest_28 : decode prog_5_method_8_code 28 = .ok (.istore 6, 2) := by decide +kernel
theorem d_Pic_nearest_30 : decode prog_5_method_8_code 30 = .ok (.iload 4, 2) := by decide +kernel
theorem d_Pic_nearest_32 : decode prog_5_method_8_code 32 = .ok (.iload 5, 2) := by decide +kernel
theorem d_Pic_nearest_34 : decode prog_5_method_8_code 34 = .ok (.if_icmp .gt 12, 3) := by decide +kernel
theorem d_Pic_nearest_37 : decode prog_5_method_8_code 37 = .ok (.iload 4, 2) := by decide +kernel
theorem d_Pic_nearest_39 : decode prog_5_method_8_code 39 = .ok (.iload 6, 2) := by decide +kernel
theorem d_Pic_nearest_41 : decode prog_5_method_8_code 41 = .ok (.if_icmp .gt 5, 3) := by decide +kernel
theorem d_Pic_nearest_44 : decode prog_5_method_8_code 44 = .ok (.iload_n 0, 1) := by decide +kernel
theorem d_Pic_nearest_45 : decode prog_5_method_8_code 45 = .ok (.ireturn, 1) := by decide +kernel
theorem d_Pic_nearest_46 : decode prog_5_method_8_code 46 = .ok (.iload 5, 2) := by decide +kernel
theorem d_Pic_nearest_48 : decode prog_5_method_8_code 48 = .ok (.iload 6, 2) := by decide +kernel
theorem d_Pic_nearest_50 : decode prog_5_method_8_code 50 = .ok (.if_icmp .gt 7, 3) := by decide +kernel
theorem d_Pic_nearest_53 : decode prog_5_method_8_code 53 = .ok (.iload_n 1, 1) := by decide +kernel
theorem d_Pic_nearest_54 : decode prog_5_method_8_code 54 = .ok (.goto 4, 3) := by decide +kernel
theorem d_Pic_nearest_57 : decode prog_5_method_8_code 57 = .ok (.iload_n 2, 1) := by decide +kernel
theorem d_Pic_nearest_58 : decode prog_5_method_8_code 58 = .ok (.ireturn, 1) := by decide +kernel
abbrev y_Pic_nearest : MethodName := ⟨"PicturePacker$Picture", "nearest", "(III)I"⟩
def wp_Pic_nearest_46 (n : Nat → Nat) (x0 : Int32) (x1 : Int32) (x2 : Int32) (post : Int32 → Unit → Prop) (y5 : Int32) (y6 : Int32) : Prop := ((y6 : Int32) < y5 → (post x2 ())) ∧ (¬ ((y6 : Int32) < y5) → (post x1 ()))
def wp_Pic_nearest (n : Nat → Nat) (x0 : Int32) (x1 : Int32) (x2 : Int32) (post : Int32 → Unit → Prop) : Prop := ∀ z1 : Int32, z1 = ((x0 + x1) - x2) → (∀ z2 : Int32, z2 = (if 0 ≤ (z1 - x0 : Int32) then z1 - x0 else 0 - (z1 - x0)) → (∀ z3 : Int32, z3 = (if 0 ≤ (z1 - x1 : Int32) then z1 - x1 else 0 - (z1 - x1)) → (∀ z4 : Int32, z4 = (if 0 ≤ (z1 - x2 : Int32) then z1 - x2 else 0 - (z1 - x2)) → (((z3 : Int32) < z2 → (wp_Pic_nearest_46 n x0 x1 x2 post z3 z4)) ∧ (¬ ((z3 : Int32) < z2) → (((z4 : Int32) < z2 → (wp_Pic_nearest_46 n x0 x1 x2 post z3 z4)) ∧ (¬ ((z4 : Int32) < z2) → (post x0 ()))))))))
set_option maxHeartbeats 2000000 in
set_option maxRecDepth 20000 in
theorem s_Pic_nearest_46 {l : Launch} {dC : Nat → ClassId} {dI : Nat → Nat → Nat} {cI : ClassId} {tb : Tbs} {a n : Nat → Nat} {p : Program} {e : Env} {s : State} {m : MethodId} {args : Array Value} {below : List Frame} {meth : Method} {c : Code} {A : Nat → Prop} (E : CallFix p m c prog_5_method_8_code 7 s args TBL "PicturePacker$Picture") (hr : meth.sig.returnType = some .int) (hlk : meth.locks = false) {x0 : Int32} {x1 : Int32} {x2 : Int32} {post : Int32 → Unit → Prop} : ∀ (y5 : Int32) (y6 : Int32) (H : Heap) (locs : List Loc) (ls : Array Slot), Wl classes dC dI cI tb A s H locs [] → lv_has ls 7 [(1, .int x1), (2, .int x2), (5, .int y5), (6, .int y6)] → wp_Pic_nearest_46 n x0 x1 x2 post y5 y6 → W p l e ({ frames := 1, cells := 0, slots := 0, locals := 21 }) s m args below meth c H locs 0 0 (MQ below (va_Qi post (fun u => End0 classes dC dI cI A []) A) args s 0 0 A) (F0 m 46 ls []) := by
  obtain ⟨hx, hb, hml, hown, hts⟩ := id E
  intro y5 y6 H locs ls hw hl h
  unfold wp_Pic_nearest_46 at h
  refine lv_iload hx hb d_Pic_nearest_46 (lv_at hl 2 rfl) ?_
  refine lv_iload hx hb d_Pic_nearest_48 (lv_at hl 3 rfl) ?_
  refine lv_icmp_gt (tgt := 57) hx hb d_Pic_nearest_50 (by decide) (fun c6 => ?_) (fun c6 => ?_)
  · have h := h.1 c6
    refine lv_iload_n hx hb d_Pic_nearest_57 rfl (lv_at hl 1 rfl) ?_
    exact retI (out := fun u => []) (u := ()) E hr hlk rfl hw h d_Pic_nearest_58
  · have h := h.2 c6
    refine lv_iload_n hx hb d_Pic_nearest_53 rfl (lv_at hl 0 rfl) ?_
    refine lv_goto (tgt := 58) hx hb d_Pic_nearest_54 (by decide) ?_
    exact retI (out := fun u => []) (u := ()) E hr hlk rfl hw h d_Pic_nearest_58
set_option maxHeartbeats 2000000 in
set_option maxRecDepth 20000 in
theorem c_Pic_nearest {l : Launch} {dC : Nat → ClassId} {dI : Nat → Nat → Nat} {cI : ClassId} {tb : Tbs} {a n : Nat → Nat} {x0 : Int32} {x1 : Int32} {x2 : Int32} {post : Int32 → Unit → Prop} (h : wp_Pic_nearest n x0 x1 x2 post) : CtI classes dC dI cI tb l y_Pic_nearest prog_5_method_8_code 7 .int ({ frames := 1, cells := 0, slots := 0, locals := 21 }) [.int x0, .int x1, .int x2] [] (Unit) (fun _ => []) post := by
  refine startI (by decide) (Nat.le_of_ble_eq_true rfl) ?_
  intro p e s m below meth c ls E hr hlk hnm hl hw
  have hl : lv_has ls 7 [(0, .int x0), (1, .int x1), (2, .int x2)] := hl
  generalize va_A [] s.heap.size = A at hw ⊢
  obtain ⟨hx, hb, hml, hown, hts⟩ := id E
  unfold wp_Pic_nearest at h
  refine lv_iload_n hx hb d_Pic_nearest_0 rfl (lv_at hl 0 rfl) ?_
  refine lv_iload_n hx hb d_Pic_nearest_1 rfl (lv_at hl 1 rfl) ?_
  refine lv_iadd hx hb d_Pic_nearest_2 ?_
  refine lv_iload_n hx hb d_Pic_nearest_3 rfl (lv_at hl 2 rfl) ?_
  refine lv_isub hx hb d_Pic_nearest_4 ?_
  refine lv_topi (fun z1 ez1 => ?_)
  have h := h z1 ez1
  refine lv_istore_n (lv' := [(3, .int z1), (0, .int x0), (1, .int x1), (2, .int x2)]) hx hb d_Pic_nearest_5 rfl hl (by decide) rfl (fun ls hl => ?_)
  refine lv_iload_n hx hb d_Pic_nearest_6 rfl (lv_at hl 0 rfl) ?_
  refine lv_iload_n hx hb d_Pic_nearest_7 rfl (lv_at hl 1 rfl) ?_
  refine lv_isub hx hb d_Pic_nearest_8 ?_
  refine kabs E hl.1 tw280 tw281 tw35 tw282 (Nat.le_of_ble_eq_true rfl) (Nat.le_of_ble_eq_true rfl) (Nat.le_of_ble_eq_true rfl) (Nat.le_of_ble_eq_true rfl) d_Pic_nearest_9 ?_
  refine lv_topi (fun z2 ez2 => ?_)
  have h := h z2 ez2
  refine lv_istore (lv' := [(4, .int z2), (3, .int z1), (0, .int x0), (1, .int x1), (2, .int x2)]) hx hb d_Pic_nearest_12 hl (by decide) rfl (fun ls hl => ?_)
  refine lv_iload_n hx hb d_Pic_nearest_14 rfl (lv_at hl 1 rfl) ?_
  refine lv_iload_n hx hb d_Pic_nearest_15 rfl (lv_at hl 3 rfl) ?_
  refine lv_isub hx hb d_Pic_nearest_16 ?_
  refine kabs E hl.1 tw280 tw281 tw35 tw282 (Nat.le_of_ble_eq_true rfl) (Nat.le_of_ble_eq_true rfl) (Nat.le_of_ble_eq_true rfl) (Nat.le_of_ble_eq_true rfl) d_Pic_nearest_17 ?_
  refine lv_topi (fun z3 ez3 => ?_)
  have h := h z3 ez3
  refine lv_istore (lv' := [(5, .int z3), (4, .int z2), (3, .int z1), (0, .int x0), (1, .int x1), (2, .int x2)]) hx hb d_Pic_nearest_20 hl (by decide) rfl (fun ls hl => ?_)
  refine lv_iload_n hx hb d_Pic_nearest_22 rfl (lv_at hl 2 rfl) ?_
  refine lv_iload_n hx hb d_Pic_nearest_23 rfl (lv_at hl 5 rfl) ?_
  refine lv_isub hx hb d_Pic_nearest_24 ?_
  refine kabs E hl.1 tw280 tw281 tw35 tw282 (Nat.le_of_ble_eq_true rfl) (Nat.le_of_ble_eq_true rfl) (Nat.le_of_ble_eq_true rfl) (Nat.le_of_ble_eq_true rfl) d_Pic_nearest_25 ?_
  refine lv_topi (fun z4 ez4 => ?_)
  have h := h z4 ez4
  refine lv_istore (lv' := [(6, .int z4), (5, .int z3), (4, .int z2), (3, .int z1), (0, .int x0), (1, .int x1), (2, .int x2)]) hx hb d_Pic_nearest_28 hl (by decide) rfl (fun ls hl => ?_)
  refine lv_iload hx hb d_Pic_nearest_30 (lv_at hl 2 rfl) ?_
  refine lv_iload hx hb d_Pic_nearest_32 (lv_at hl 1 rfl) ?_
  refine lv_icmp_gt (tgt := 46) hx hb d_Pic_nearest_34 (by decide) (fun c5 => ?_) (fun c5 => ?_)
  · have h := h.1 c5
    exact s_Pic_nearest_46 (a := a) (n := n) (tb := tb) E hr hlk  z3 z4 _ _ ls hw (lv_sub hl [5, 6, 1, 0] rfl) h
  · have h := h.2 c5
    refine lv_iload hx hb d_Pic_nearest_37 (lv_at hl 2 rfl) ?_
    refine lv_iload hx hb d_Pic_nearest_39 (lv_at hl 0 rfl) ?_
    refine lv_icmp_gt (tgt := 46) hx hb d_Pic_nearest_41 (by decide) (fun c7 => ?_) (fun c7 => ?_)
    · have h := h.1 c7
      exact s_Pic_nearest_46 (a := a) (n := n) (tb := tb) E hr hlk  z3 z4 _ _ ls hw (lv_sub hl [5, 6, 1, 0] rfl) h
    · have h := h.2 c7
      refine lv_iload_n hx hb d_Pic_nearest_44 rfl (lv_at hl 4 rfl) ?_
      exact retI (out := fun u => []) (u := ()) E hr hlk rfl hw h d_Pic_nearest_45
-- PicturePacker$Picture.guess(IIII)I
theorem d_Pic_guess_0 : decode prog_5_method_7_code 0 = .ok (.iload_n 0, 1) := by decide +kernel
theorem d_Pic_guess_1 : decode prog_5_method_7_code 1 = .ok (.tableswitch 48 1 4 #[31, 33, 35, 41], 31) := by decide +kernel
theorem d_Pic_guess_32 : decode prog_5_method_7_code 32 = .ok (.iload_n 1, 1) := by decide +kernel
theorem d_Pic_guess_33 : decode prog_5_method_7_code 33 = .ok (.ireturn, 1) := by decide +kernel
theorem d_Pic_guess_34 : decode prog_5_method_7_code 34 = .ok (.iload_n 2, 1) := by decide +kernel
theorem d_Pic_guess_35 : decode prog_5_method_7_code 35 = .ok (.ireturn, 1) := by decide +kernel
theorem d_Pic_guess_36 : decode prog_5_method_7_code 36 = .ok (.iload_n 1, 1) := by decide +kernel
theorem d_Pic_guess_37 : decode prog_5_method_7_code 37 = .ok (.iload_n 2, 1) := by decide +kernel
theorem d_Pic_guess_38 : decode prog_5_method_7_code 38 = .ok (.iadd, 1) := by decide +kernel
theorem d_Pic_guess_39 : decode prog_5_method_7_code 39 = .ok (.iconst 1, 1) := by decide +kernel
theorem d_Pic_guess_40 : decode prog_5_method_7_code 40 = .ok (.ishr, 1) := by decide +kernel
theorem d_Pic_guess_41 : decode prog_5_method_7_code 41 = .ok (.ireturn, 1) := by decide +kernel
theorem d_Pic_guess_42 : decode prog_5_method_7_code 42 = .ok (.iload_n 1, 1) := by decide +kernel
theorem d_Pic_guess_43 : decode prog_5_method_7_code 43 = .ok (.iload_n 2, 1) := by decide +kernel
theorem d_Pic_guess_44 : decode prog_5_method_7_code 44 = .ok (.iload_n 3, 1) := by decide +kernel
theorem d_Pic_guess_45 : decode prog_5_method_7_code 45 = .ok (.invokestatic 33, 3) := by decide +kernel
theorem d_Pic_guess_48 : decode prog_5_method_7_code 48 = .ok (.ireturn, 1) := by decide +kernel
theorem d_Pic_guess_49 : decode prog_5_method_7_code 49 = .ok (.iconst 0, 1) := by decide +kernel
theorem d_Pic_guess_50 : decode prog_5_method_7_code 50 = .ok (.ireturn, 1) := by decide +kernel
abbrev y_Pic_guess : MethodName := ⟨"PicturePacker$Picture", "guess", "(IIII)I"⟩
def wp_Pic_guess (n : Nat → Nat) (x0 : Int32) (x1 : Int32) (x2 : Int32) (x3 : Int32) (post : Int32 → Unit → Prop) : Prop := ((x0 : Int32) = 1 → (post x1 ())) ∧ ((x0 : Int32) = 2 → (post x2 ())) ∧ ((x0 : Int32) = 3 → (post ((x1 + x2 : Int32) >>> (1 &&& 31)) ())) ∧ ((x0 : Int32) = 4 → (wp_Pic_nearest n x1 x2 x3 (fun r5 _ => post r5 ()))) ∧ (¬ (x0 : Int32) = 1 → ¬ (x0 : Int32) = 2 → ¬ (x0 : Int32) = 3 → ¬ (x0 : Int32) = 4 → (post 0 ()))
set_option maxHeartbeats 2000000 in
set_option maxRecDepth 20000 in
theorem c_Pic_guess {l : Launch} {dC : Nat → ClassId} {dI : Nat → Nat → Nat} {cI : ClassId} {tb : Tbs} {a n : Nat → Nat} {x0 : Int32} {x1 : Int32} {x2 : Int32} {x3 : Int32} {post : Int32 → Unit → Prop} (h : wp_Pic_guess n x0 x1 x2 x3 post) : CtI classes dC dI cI tb l y_Pic_guess prog_5_method_7_code 4 .int ({ frames := 2, cells := 0, slots := 0, locals := 47 }) [.int x0, .int x1, .int x2, .int x3] [] (Unit) (fun _ => []) post := by
  refine startI (by decide) (Nat.le_of_ble_eq_true rfl) ?_
  intro p e s m below meth c ls E hr hlk hnm hl hw
  have hl : lv_has ls 4 [(0, .int x0), (1, .int x1), (2, .int x2), (3, .int x3)] := hl
  generalize va_A [] s.heap.size = A at hw ⊢
  obtain ⟨hx, hb, hml, hown, hts⟩ := id E
  unfold wp_Pic_guess at h
  refine lv_iload_n hx hb d_Pic_guess_0 rfl (lv_at hl 0 rfl) ?_
  by_cases c1 : (x0 : Int32) = 1
  · have h := h.1 c1
    refine lv_tableIn (tgt := 32) (off := 31) hx hb d_Pic_guess_1 (by rw [c1]; decide) (by rw [c1]; decide) (by rw [c1]; decide) (by decide) ?_
    refine lv_iload_n hx hb d_Pic_guess_32 rfl (lv_at hl 1 rfl) ?_
    exact retI (out := fun u => []) (u := ()) E hr hlk rfl hw h d_Pic_guess_33
  · skip
    by_cases c2 : (x0 : Int32) = 2
    · have h := h.2.1 c2
      refine lv_tableIn (tgt := 34) (off := 33) hx hb d_Pic_guess_1 (by rw [c2]; decide) (by rw [c2]; decide) (by rw [c2]; decide) (by decide) ?_
      refine lv_iload_n hx hb d_Pic_guess_34 rfl (lv_at hl 2 rfl) ?_
      exact retI (out := fun u => []) (u := ()) E hr hlk rfl hw h d_Pic_guess_35
    · skip
      by_cases c3 : (x0 : Int32) = 3
      · have h := h.2.2.1 c3
        refine lv_tableIn (tgt := 36) (off := 35) hx hb d_Pic_guess_1 (by rw [c3]; decide) (by rw [c3]; decide) (by rw [c3]; decide) (by decide) ?_
        refine lv_iload_n hx hb d_Pic_guess_36 rfl (lv_at hl 1 rfl) ?_
        refine lv_iload_n hx hb d_Pic_guess_37 rfl (lv_at hl 2 rfl) ?_
        refine lv_iadd hx hb d_Pic_guess_38 ?_
        refine lv_iconst (v := 1) hx hb d_Pic_guess_39 (by decide) ?_
        refine lv_ishr hx hb d_Pic_guess_40 ?_
        exact retI (out := fun u => []) (u := ()) E hr hlk rfl hw h d_Pic_guess_41
      · skip
        by_cases c6 : (x0 : Int32) = 4
        · have h := h.2.2.2.1 c6
          refine lv_tableIn (tgt := 42) (off := 41) hx hb d_Pic_guess_1 (by rw [c6]; decide) (by rw [c6]; decide) (by rw [c6]; decide) (by decide) ?_
          refine lv_iload_n hx hb d_Pic_guess_42 rfl (lv_at hl 1 rfl) ?_
          refine lv_iload_n hx hb d_Pic_guess_43 rfl (lv_at hl 2 rfl) ?_
          refine lv_iload_n hx hb d_Pic_guess_44 rfl (lv_at hl 3 rfl) ?_
          refine kSi (y := y_Pic_nearest) (ws' := fun _ => []) (wr := []) (As := [.int x1, .int x2, .int x3]) (rest := []) E hw (c_Pic_nearest (l := l) (dC := dC) (dI := dI) (cI := cI) (tb := tb) (a := a) (n := n)  (x0 := x1) (x1 := x2) (x2 := x3) h) tw277 tw278 tw34 tw279 3 (by decide) ⟨Nat.le_of_ble_eq_true rfl, Nat.le_of_ble_eq_true rfl⟩ ⟨Nat.le_of_ble_eq_true rfl, Nat.le_of_ble_eq_true rfl⟩ ⟨rfl, rfl⟩ [] [] [] rfl rfl rfl rfl (by decide) rfl (fun _ => rfl) hl.1 rfl rfl (Nat.le_of_ble_eq_true rfl) d_Pic_guess_45 (fun r5 u4 H locs h hw => ?_)
          exact retI (out := fun u => []) (u := ()) E hr hlk rfl hw h d_Pic_guess_48
        · skip
          have h := h.2.2.2.2 c1 c2 c3 c6
          have qc1 := lv_neT c1 (a := 1) (by decide)
          have qc2 := lv_neT c2 (a := 2) (by decide)
          have qc3 := lv_neT c3 (a := 3) (by decide)
          have qc6 := lv_neT c6 (a := 4) (by decide)
          refine lv_tableOut (tgt := 49) hx hb d_Pic_guess_1 (by omega) (by decide) ?_
          refine lv_iconst (v := 0) hx hb d_Pic_guess_49 (by decide) ?_
          exact retI (out := fun u => []) (u := ()) E hr hlk rfl hw h d_Pic_guess_50
-- PicturePacker$Picture.lessGuess(II)I
theorem d_Pic_lessGuess_0 : decode prog_5_method_6_code 0 = .ok (.iload_n 2, 1) := by decide +kernel
theorem d_Pic_lessGuess_1 : decode prog_5_method_6_code 1 = .ok (.aload_n 0, 1) := by decide +kernel
theorem d_Pic_lessGuess_2 : decode prog_5_method_6_code 2 = .ok (.getfield 18, 3) := by decide +kernel
theorem d_Pic_lessGuess_5 : decode prog_5_method_6_code 5 = .ok (.iconst 3, 1) := by decide +kernel
theorem d_Pic_lessGuess_6 : decode prog_5_method_6_code 6 = .ok (.iadd, 1) := by decide +kernel
theorem d_Pic_lessGuess_7 : decode prog_5_method_6_code 7 = .ok (.if_icmp .lt 12, 3) := by decide +kernel
theorem d_Pic_lessGuess_10 : decode prog_5_method_6_code 10 = .ok (.iload_n 2, 1) := by decide +kernel
theorem d_Pic_lessGuess_11 : decode prog_5_method_6_code 11 = .ok (.aload_n 0, 1) := by decide +kernel
theorem d_Pic_lessGuess_12 : decode prog_5_method_6_code 12 = .ok (.getfield 21, 3) := by decide +kernel
theorem d_Pic_lessGuess_15 : decode prog_5_method_6_code 15 = .ok (.arraylength, 1) := by decide +kernel
theorem d_Pic_lessGuess_16 : decode prog_5_method_6_code 16 = .ok (.if_icmp .lt 5, 3) := by decide +kernel
theorem d_Pic_lessGuess_19 : decode prog_5_method_6_code 19 = .ok (.iconst 0, 1) := by decide +kernel
theorem d_Pic_lessGuess_20 : decode prog_5_method_6_code 20 = .ok (.ireturn, 1) := by decide +kernel
theorem d_Pic_lessGuess_21 : decode prog_5_method_6_code 21 = .ok (.aload_n 0, 1) := by decide +kernel
theorem d_Pic_lessGuess_22 : decode prog_5_method_6_code 22 = .ok (.getfield 21, 3) := by decide +kernel
theorem d_Pic_lessGuess_25 : decode prog_5_method_6_code 25 = .ok (.iload_n 2, 1) := by decide +kernel
theorem d_Pic_lessGuess_26 : decode prog_5_method_6_code 26 = .ok (.iconst 3, 1) := by decide +kernel
theorem d_Pic_lessGuess_27 : decode prog_5_method_6_code 27 = .ok (.isub, 1) := by decide +kernel
theorem d_Pic_lessGuess_28 : decode prog_5_method_6_code 28 = .ok (.iaload, 1) := by decide +kernel
theorem d_Pic_lessGuess_29 : decode prog_5_method_6_code 29 = .ok (.istore_n 3, 1) := by decide +kernel
theorem d_Pic_lessGuess_30 : decode prog_5_method_6_code 30 = .ok (.aload_n 0, 1) := by decide +kernel
theorem d_Pic_lessGuess_31 : decode prog_5_method_6_code 31 = .ok (.getfield 21, 3) := by decide +kernel
theorem d_Pic_lessGuess_34 : decode prog_5_method_6_code 34 = .ok (.iload_n 2, 1) := by decide +kernel
theorem d_Pic_lessGuess_35 : decode prog_5_method_6_code 35 = .ok (.aload_n 0, 1) := by decide +kernel
theorem d_Pic_lessGuess_36 : decode prog_5_method_6_code 36 = .ok (.getfield 18, 3) := by decide +kernel
theorem d_Pic_lessGuess_39 : decode prog_5_method_6_code 39 = .ok (.isub, 1) := by decide +kernel
theorem d_Pic_lessGuess_40 : decode prog_5_method_6_code 40 = .ok (.iaload, 1) := by decide +kernel
theorem d_Pic_lessGuess_41 : decode prog_5_method_6_code 41 = .ok (.istore 4, 2) := by decide +kernel
theorem d_Pic_lessGuess_43 : decode prog_5_method_6_code 43 = .ok (.aload_n 0, 1) := by decide +kernel
theorem d_Pic_lessGuess_44 : decode prog_5_method_6_code 44 = .ok (.getfield 21, 3) := by decide +kernel
theorem d_Pic_lessGuess_47 : decode prog_5_method_6_code 47 = .ok (.iload_n 2, 1) := by decide +kernel
theorem d_Pic_lessGuess_48 : decode prog_5_method_6_code 48 = .ok (.aload_n 0, 1) := by decide +kernel
theorem d_Pic_lessGuess_49 : decode prog_5_method_6_code 49 = .ok (.getfield 18, 3) := by decide +kernel
theorem d_Pic_lessGuess_52 : decode prog_5_method_6_code 52 = .ok (.isub, 1) := by decide +kernel
theorem d_Pic_lessGuess_53 : decode prog_5_method_6_code 53 = .ok (.iconst 3, 1) := by decide +kernel
theorem d_Pic_lessGuess_54 : decode prog_5_method_6_code 54 = .ok (.isub, 1) := by decide +kernel
theorem d_Pic_lessGuess_55 : decode prog_5_method_6_code 55 = .ok (.iaload, 1) := by decide +kernel
theorem d_Pic_lessGuess_56 : decode prog_5_method_6_code 56 = .ok (.istore 5, 2) := by decide +kernel
theorem d_Pic_lessGuess_58 : decode prog_5_method_6_code 58 = .ok (.aload_n 0, 1) := by decide +kernel
theorem d_Pic_lessGuess_59 : decode prog_5_method_6_code 59 = .ok (.getfield 21, 3) := by decide +kernel
theorem d_Pic_lessGuess_62 : decode prog_5_method_6_code 62 = .ok (.iload_n 2, 1) := by decide +kernel
theorem d_Pic_lessGuess_63 : decode prog_5_method_6_code 63 = .ok (.iaload, 1) := by decide +kernel
theorem d_Pic_lessGuess_64 : decode prog_5_method_6_code 64 = .ok (.iload_n 1, 1) := by decide +kernel
theorem d_Pic_lessGuess_65 : decode prog_5_method_6_code 65 = .ok (.iload_n 3, 1) := by decide +kernel
theorem d_Pic_lessGuess_66 : decode prog_5_method_6_code 66 = .ok (.iload 4, 2) := by decide +kernel
theorem d_Pic_lessGuess_68 : decode prog_5_method_6_code 68 = .ok (.iload 5, 2) := by decide +kernel
theorem d_Pic_lessGuess_70 : decode prog_5_method_6_code 70 = .ok (.invokestatic 29, 3) := by decide +kernel
theorem d_Pic_lessGuess_73 : decode prog_5_method_6_code 73 = .ok (.isub, 1) := by decide +kernel
theorem d_Pic_lessGuess_74 : decode prog_5_method_6_code 74 = .ok (.sipush 255, 3) := by decide +kernel
theorem d_Pic_lessGuess_77 : decode prog_5_method_6_code 77 = .ok (.iand, 1) := by decide +kernel
theorem d_Pic_lessGuess_78 : decode prog_5_method_6_code 78 = .ok (.ireturn, 1) := by decide +kernel
abbrev y_Pic_lessGuess : MethodName := ⟨"PicturePacker$Picture", "lessGuess", "(II)I"⟩
def wp_Pic_lessGuess (n : Nat → Nat) (Pic_stride : Int32) (pb : Nat → Int32) (x1 : Int32) (x2 : Int32) (post : Int32 → Unit → Prop) : Prop := ((x2 : Int32) < (Pic_stride + 3) → (post 0 ())) ∧ (¬ ((x2 : Int32) < (Pic_stride + 3)) → (((x2 : Int32) < (nI (n 8)) → (vp_in (x2 - 3) (n 8) ∧ (∀ z4 : Int32, z4 = (pb (x2 - 3 : Int32).toNatClampNeg) → (vp_in (x2 - Pic_stride) (n 8) ∧ (∀ z6 : Int32, z6 = (pb (x2 - Pic_stride : Int32).toNatClampNeg) → (vp_in ((x2 - Pic_stride) - 3) (n 8) ∧ (∀ z8 : Int32, z8 = (pb ((x2 - Pic_stride) - 3 : Int32).toNatClampNeg) → (vp_in x2 (n 8) ∧ (wp_Pic_guess n x1 z4 z6 z8 (fun r11 _ => post (((pb (x2 : Int32).toNatClampNeg) - r11) &&& 255) ())))))))))) ∧ (¬ ((x2 : Int32) < (nI (n 8))) → (post 0 ()))))
set_option maxHeartbeats 2000000 in
set_option maxRecDepth 20000 in
theorem c_Pic_lessGuess {l : Launch} {dC : Nat → ClassId} {dI : Nat → Nat → Nat} {cI : ClassId} {tb : Tbs} {a n : Nat → Nat} {Pic_width : Int32} {Pic_height : Int32} {Pic_stride : Int32} {pb : Nat → Int32} {x1 : Int32} {x2 : Int32} {post : Int32 → Unit → Prop} (h : wp_Pic_lessGuess n Pic_stride pb x1 x2 post) : CtI classes dC dI cI tb l y_Pic_lessGuess prog_5_method_6_code 6 .int ({ frames := 3, cells := 0, slots := 0, locals := 70 }) [.ref (a 1), .int x1, .int x2] [e_Pic a Pic_width Pic_height Pic_stride, e_ar a n cI 8 pb] (Unit) (fun _ => [e_Pic a Pic_width Pic_height Pic_stride, e_ar a n cI 8 pb]) post := by
  refine startI (by decide) (Nat.le_of_ble_eq_true rfl) ?_
  intro p e s m below meth c ls E hr hlk hnm hl hw
  have hl : lv_has ls 6 [(0, .ref (a 1)), (1, .int x1), (2, .int x2)] := hl
  generalize va_A [e_Pic a Pic_width Pic_height Pic_stride, e_ar a n cI 8 pb] s.heap.size = A at hw ⊢
  obtain ⟨hx, hb, hml, hown, hts⟩ := id E
  unfold wp_Pic_lessGuess at h
  refine lv_iload_n hx hb d_Pic_lessGuess_0 rfl (lv_at hl 2 rfl) ?_
  refine lv_aload_n hx hb d_Pic_lessGuess_1 rfl (lv_at hl 0 rfl) ?_
  refine kget (v := .int Pic_stride) (T := F_Pic) E hw in_Pic rfl 0 2 rfl (by decide) tw72 rfl d_Pic_lessGuess_2 ?_
  refine lv_iconst (v := 3) hx hb d_Pic_lessGuess_5 (by decide) ?_
  refine lv_iadd hx hb d_Pic_lessGuess_6 ?_
  refine lv_icmp_lt (tgt := 19) hx hb d_Pic_lessGuess_7 (by decide) (fun c1 => ?_) (fun c1 => ?_)
  · have h := h.1 c1
    refine lv_iconst (v := 0) hx hb d_Pic_lessGuess_19 (by decide) ?_
    exact retI (out := fun u => [e_Pic a Pic_width Pic_height Pic_stride, e_ar a n cI 8 pb]) (u := ()) E hr hlk rfl hw h d_Pic_lessGuess_20
  · have h := h.2 c1
    refine lv_iload_n hx hb d_Pic_lessGuess_10 rfl (lv_at hl 2 rfl) ?_
    refine lv_aload_n hx hb d_Pic_lessGuess_11 rfl (lv_at hl 0 rfl) ?_
    refine kget (v := .ref (a 8)) (T := F_Pic) E hw in_Pic rfl 0 3 rfl (by decide) tw73 rfl d_Pic_lessGuess_12 ?_
    refine kalen E hw 1 rfl d_Pic_lessGuess_15 ?_
    refine lv_icmp_lt (tgt := 21) hx hb d_Pic_lessGuess_16 (by decide) (fun c2 => ?_) (fun c2 => ?_)
    · have h := h.1 c2
      refine lv_aload_n hx hb d_Pic_lessGuess_21 rfl (lv_at hl 0 rfl) ?_
      refine kget (v := .ref (a 8)) (T := F_Pic) E hw in_Pic rfl 0 3 rfl (by decide) tw73 rfl d_Pic_lessGuess_22 ?_
      refine lv_iload_n hx hb d_Pic_lessGuess_25 rfl (lv_at hl 2 rfl) ?_
      refine lv_iconst (v := 3) hx hb d_Pic_lessGuess_26 (by decide) ?_
      refine lv_isub hx hb d_Pic_lessGuess_27 ?_
      obtain ⟨b3, h⟩ := h
      refine kald E hw 1 rfl b3 d_Pic_lessGuess_28 ?_
      refine lv_topi (fun z4 ez4 => ?_)
      have h := h z4 ez4
      refine lv_istore_n (lv' := [(3, .int z4), (0, .ref (a 1)), (1, .int x1), (2, .int x2)]) hx hb d_Pic_lessGuess_29 rfl hl (by decide) rfl (fun ls hl => ?_)
      refine lv_aload_n hx hb d_Pic_lessGuess_30 rfl (lv_at hl 1 rfl) ?_
      refine kget (v := .ref (a 8)) (T := F_Pic) E hw in_Pic rfl 0 3 rfl (by decide) tw73 rfl d_Pic_lessGuess_31 ?_
      refine lv_iload_n hx hb d_Pic_lessGuess_34 rfl (lv_at hl 3 rfl) ?_
      refine lv_aload_n hx hb d_Pic_lessGuess_35 rfl (lv_at hl 1 rfl) ?_
      refine kget (v := .int Pic_stride) (T := F_Pic) E hw in_Pic rfl 0 2 rfl (by decide) tw72 rfl d_Pic_lessGuess_36 ?_
      refine lv_isub hx hb d_Pic_lessGuess_39 ?_
      obtain ⟨b5, h⟩ := h
      refine kald E hw 1 rfl b5 d_Pic_lessGuess_40 ?_
      refine lv_topi (fun z6 ez6 => ?_)
      have h := h z6 ez6
      refine lv_istore (lv' := [(4, .int z6), (3, .int z4), (0, .ref (a 1)), (1, .int x1), (2, .int x2)]) hx hb d_Pic_lessGuess_41 hl (by decide) rfl (fun ls hl => ?_)
      refine lv_aload_n hx hb d_Pic_lessGuess_43 rfl (lv_at hl 2 rfl) ?_
      refine kget (v := .ref (a 8)) (T := F_Pic) E hw in_Pic rfl 0 3 rfl (by decide) tw73 rfl d_Pic_lessGuess_44 ?_
      refine lv_iload_n hx hb d_Pic_lessGuess_47 rfl (lv_at hl 4 rfl) ?_
      refine lv_aload_n hx hb d_Pic_lessGuess_48 rfl (lv_at hl 2 rfl) ?_
      refine kget (v := .int Pic_stride) (T := F_Pic) E hw in_Pic rfl 0 2 rfl (by decide) tw72 rfl d_Pic_lessGuess_49 ?_
      refine lv_isub hx hb d_Pic_lessGuess_52 ?_
      refine lv_iconst (v := 3) hx hb d_Pic_lessGuess_53 (by decide) ?_
      refine lv_isub hx hb d_Pic_lessGuess_54 ?_
      obtain ⟨b7, h⟩ := h
      refine kald E hw 1 rfl b7 d_Pic_lessGuess_55 ?_
      refine lv_topi (fun z8 ez8 => ?_)
      have h := h z8 ez8
      refine lv_istore (lv' := [(5, .int z8), (4, .int z6), (3, .int z4), (0, .ref (a 1)), (1, .int x1), (2, .int x2)]) hx hb d_Pic_lessGuess_56 hl (by decide) rfl (fun ls hl => ?_)
      refine lv_aload_n hx hb d_Pic_lessGuess_58 rfl (lv_at hl 3 rfl) ?_
      refine kget (v := .ref (a 8)) (T := F_Pic) E hw in_Pic rfl 0 3 rfl (by decide) tw73 rfl d_Pic_lessGuess_59 ?_
      refine lv_iload_n hx hb d_Pic_lessGuess_62 rfl (lv_at hl 5 rfl) ?_
      obtain ⟨b9, h⟩ := h
      refine kald E hw 1 rfl b9 d_Pic_lessGuess_63 ?_
      refine lv_iload_n hx hb d_Pic_lessGuess_64 rfl (lv_at hl 4 rfl) ?_
      refine lv_iload_n hx hb d_Pic_lessGuess_65 rfl (lv_at hl 2 rfl) ?_
      refine lv_iload hx hb d_Pic_lessGuess_66 (lv_at hl 1 rfl) ?_
      refine lv_iload hx hb d_Pic_lessGuess_68 (lv_at hl 0 rfl) ?_
      refine kSi (y := y_Pic_guess) (ws' := fun _ => [e_Pic a Pic_width Pic_height Pic_stride, e_ar a n cI 8 pb]) (wr := [e_Pic a Pic_width Pic_height Pic_stride, e_ar a n cI 8 pb]) (As := [.int x1, .int z4, .int z6, .int z8]) (rest := [.int (pb (x2 : Int32).toNatClampNeg)]) E hw (c_Pic_guess (l := l) (dC := dC) (dI := dI) (cI := cI) (tb := tb) (a := a) (n := n)  (x0 := x1) (x1 := z4) (x2 := z6) (x3 := z8) h) tw274 tw275 tw34 tw276 4 (by decide) ⟨Nat.le_of_ble_eq_true rfl, Nat.le_of_ble_eq_true rfl⟩ ⟨Nat.le_of_ble_eq_true rfl, Nat.le_of_ble_eq_true rfl⟩ ⟨rfl, rfl⟩ [] [0, 1] [0, 1] rfl rfl rfl rfl (by decide) rfl (fun _ => rfl) hl.1 rfl rfl (Nat.le_of_ble_eq_true rfl) d_Pic_lessGuess_70 (fun r11 u10 H locs h hw => ?_)
      refine lv_isub hx hb d_Pic_lessGuess_73 ?_
      refine lv_sipush (v := 255) hx hb d_Pic_lessGuess_74 (by decide) ?_
      refine lv_iand hx hb d_Pic_lessGuess_77 ?_
      exact retI (out := fun u => [e_Pic a Pic_width Pic_height Pic_stride, e_ar a n cI 8 pb]) (u := ()) E hr hlk rfl hw h d_Pic_lessGuess_78
    · have h := h.2 c2
      refine lv_iconst (v := 0) hx hb d_Pic_lessGuess_19 (by decide) ?_
      exact retI (out := fun u => [e_Pic a Pic_width Pic_height Pic_stride, e_ar a n cI 8 pb]) (u := ()) E hr hlk rfl hw h d_Pic_lessGuess_20
