-- PicturePackerModel.in(II)Z
theorem d_Mod_in_0 : decode prog_9_method_3_code 0 = .ok (.iload_n 1, 1) := by decide +kernel
theorem d_Mod_in_1 : decode prog_9_method_3_code 1 = .ok (.ifCond .lt 27, 3) := by decide +kernel
theorem d_Mod_in_4 : decode prog_9_method_3_code 4 = .ok (.iload_n 1, 1) := by decide +kernel
theorem d_Mod_in_5 : decode prog_9_method_3_code 5 = .ok (.aload_n 0, 1) := by decide +kernel
theorem d_Mod_in_6 : decode prog_9_method_3_code 6 = .ok (.getfield 19, 3) := by decide +kernel
theorem d_Mod_in_9 : decode prog_9_method_3_code 9 = .ok (.if_icmp .ge 19, 3) := by decide +kernel
theorem d_Mod_in_12 : decode prog_9_method_3_code 12 = .ok (.iload_n 2, 1) := by decide +kernel
theorem d_Mod_in_13 : decode prog_9_method_3_code 13 = .ok (.ifCond .lt 15, 3) := by decide +kernel
theorem d_Mod_in_16 : decode prog_9_method_3_code 16 = .ok (.iload_n 2, 1) := by decide +kernel
theorem d_Mod_in_17 : decode prog_9_method_3_code 17 = .ok (.aload_n 0, 1) := by decide +kernel
theorem d_Mod_in_18 : decode prog_9_method_3_code 18 = .ok (.getfield 23, 3) := by decide +kernel
theorem d_Mod_in_21 : decode prog_9_method_3_code 21 = .ok (.if_icmp .ge 7, 3) := by decide +kernel
theorem d_Mod_in_24 : decode prog_9_method_3_code 24 = .ok (.iconst 1, 1) := by decide +kernel
theorem d_Mod_in_25 : decode prog_9_method_3_code 25 = .ok (.goto 4, 3) := by decide +kernel
theorem d_Mod_in_28 : decode prog_9_method_3_code 28 = .ok (.iconst 0, 1) := by decide +kernel
theorem d_Mod_in_29 : decode prog_9_method_3_code 29 = .ok (.ireturn, 1) := by decide +kernel
abbrev y_Mod_in : MethodName := ⟨"PicturePackerModel", "in", "(II)Z"⟩
def wp_Mod_in (n : Nat → Nat) (Mod_width : Int32) (Mod_height : Int32) (x1 : Int32) (x2 : Int32) (post : Int32 → Unit → Prop) : Prop := ((x1 : Int32) < 0 → (narrow .boolean (.int 0) = .int 0 ∧ post 0 ())) ∧ (¬ ((x1 : Int32) < 0) → (((Mod_width : Int32) ≤ x1 → (narrow .boolean (.int 0) = .int 0 ∧ post 0 ())) ∧ (¬ ((Mod_width : Int32) ≤ x1) → (((x2 : Int32) < 0 → (narrow .boolean (.int 0) = .int 0 ∧ post 0 ())) ∧ (¬ ((x2 : Int32) < 0) → (((Mod_height : Int32) ≤ x2 → (narrow .boolean (.int 0) = .int 0 ∧ post 0 ())) ∧ (¬ ((Mod_height : Int32) ≤ x2) → (narrow .boolean (.int 1) = .int 1 ∧ post 1 ()))))))))
set_option maxHeartbeats 2000000 in
set_option maxRecDepth 20000 in
theorem c_Mod_in {l : Launch} {dC : Nat → ClassId} {dI : Nat → Nat → Nat} {cI : ClassId} {tb : Tbs} {a n : Nat → Nat} {Mod_thrown : Int32} {Mod_width : Int32} {Mod_height : Int32} {Mod_many : Int32} {Mod_size : Int32} {Mod_bit : Int32} {Mod_single : Int32} {Mod_runs : Int32} {Mod_longest : Int32} {x1 : Int32} {x2 : Int32} {post : Int32 → Unit → Prop} (h : wp_Mod_in n Mod_width Mod_height x1 x2 post) : CtI classes dC dI cI tb l y_Mod_in prog_9_method_3_code 3 .boolean ({ frames := 0, cells := 0, slots := 0, locals := 0 }) [.ref (a 7), .int x1, .int x2] [e_Mod a Mod_thrown Mod_width Mod_height Mod_many Mod_size Mod_bit Mod_single Mod_runs Mod_longest] (Unit) (fun _ => [e_Mod a Mod_thrown Mod_width Mod_height Mod_many Mod_size Mod_bit Mod_single Mod_runs Mod_longest]) post := by
  refine startI (by decide) (Nat.le_of_ble_eq_true rfl) ?_
  intro p e s m below meth c ls E hr hlk hnm hl hw
  have hl : lv_has ls 3 [(0, .ref (a 7)), (1, .int x1), (2, .int x2)] := hl
  generalize va_A [e_Mod a Mod_thrown Mod_width Mod_height Mod_many Mod_size Mod_bit Mod_single Mod_runs Mod_longest] s.heap.size = A at hw ⊢
  obtain ⟨hx, hb, hml, hown, hts⟩ := id E
  unfold wp_Mod_in at h
  refine lv_iload_n hx hb d_Mod_in_0 rfl (lv_at hl 1 rfl) ?_
  refine lv_if_lt (tgt := 28) hx hb d_Mod_in_1 (by decide) (fun c1 => ?_) (fun c1 => ?_)
  · have h := h.1 c1
    refine lv_iconst (v := 0) hx hb d_Mod_in_28 (by decide) ?_
    exact retI (out := fun u => [e_Mod a Mod_thrown Mod_width Mod_height Mod_many Mod_size Mod_bit Mod_single Mod_runs Mod_longest]) (u := ()) E hr hlk h.1 hw h.2 d_Mod_in_29
  · have h := h.2 c1
    refine lv_iload_n hx hb d_Mod_in_4 rfl (lv_at hl 1 rfl) ?_
    refine lv_aload_n hx hb d_Mod_in_5 rfl (lv_at hl 0 rfl) ?_
    refine kget (v := .int Mod_width) (T := F_Mod) E hw in_Mod rfl 0 1 rfl (by decide) tw430 rfl d_Mod_in_6 ?_
    refine lv_icmp_ge (tgt := 28) hx hb d_Mod_in_9 (by decide) (fun c2 => ?_) (fun c2 => ?_)
    · have h := h.1 c2
      refine lv_iconst (v := 0) hx hb d_Mod_in_28 (by decide) ?_
      exact retI (out := fun u => [e_Mod a Mod_thrown Mod_width Mod_height Mod_many Mod_size Mod_bit Mod_single Mod_runs Mod_longest]) (u := ()) E hr hlk h.1 hw h.2 d_Mod_in_29
    · have h := h.2 c2
      refine lv_iload_n hx hb d_Mod_in_12 rfl (lv_at hl 2 rfl) ?_
      refine lv_if_lt (tgt := 28) hx hb d_Mod_in_13 (by decide) (fun c3 => ?_) (fun c3 => ?_)
      · have h := h.1 c3
        refine lv_iconst (v := 0) hx hb d_Mod_in_28 (by decide) ?_
        exact retI (out := fun u => [e_Mod a Mod_thrown Mod_width Mod_height Mod_many Mod_size Mod_bit Mod_single Mod_runs Mod_longest]) (u := ()) E hr hlk h.1 hw h.2 d_Mod_in_29
      · have h := h.2 c3
        refine lv_iload_n hx hb d_Mod_in_16 rfl (lv_at hl 2 rfl) ?_
        refine lv_aload_n hx hb d_Mod_in_17 rfl (lv_at hl 0 rfl) ?_
        refine kget (v := .int Mod_height) (T := F_Mod) E hw in_Mod rfl 0 2 rfl (by decide) tw431 rfl d_Mod_in_18 ?_
        refine lv_icmp_ge (tgt := 28) hx hb d_Mod_in_21 (by decide) (fun c4 => ?_) (fun c4 => ?_)
        · have h := h.1 c4
          refine lv_iconst (v := 0) hx hb d_Mod_in_28 (by decide) ?_
          exact retI (out := fun u => [e_Mod a Mod_thrown Mod_width Mod_height Mod_many Mod_size Mod_bit Mod_single Mod_runs Mod_longest]) (u := ()) E hr hlk h.1 hw h.2 d_Mod_in_29
        · have h := h.2 c4
          refine lv_iconst (v := 1) hx hb d_Mod_in_24 (by decide) ?_
          refine lv_goto (tgt := 29) hx hb d_Mod_in_25 (by decide) ?_
          exact retI (out := fun u => [e_Mod a Mod_thrown Mod_width Mod_height Mod_many Mod_size Mod_bit Mod_single Mod_runs Mod_longest]) (u := ()) E hr hlk h.1 hw h.2 d_Mod_in_29
-- PicturePackerModel.set(III)Z
theorem d_Mod_set_0 : decode prog_9_method_4_code 0 = .ok (.aload_n 0, 1) := by decide +kernel
theorem d_Mod_set_1 : decode prog_9_method_4_code 1 = .ok (.iconst 0, 1) := by decide +kernel
theorem d_Mod_set_2 : decode prog_9_method_4_code 2 = .ok (.putfield 26, 3) := by decide +kernel
theorem d_Mod_set_5 : decode prog_9_method_4_code 5 = .ok (.aload_n 0, 1) := by decide +kernel
theorem d_Mod_set_6 : decode prog_9_method_4_code 6 = .ok (.iload_n 1, 1) := by decide +kernel
theorem d_Mod_set_7 : decode prog_9_method_4_code 7 = .ok (.iload_n 2, 1) := by decide +kernel
theorem d_Mod_set_8 : decode prog_9_method_4_code 8 = .ok (.invokevirtual 29, 3) := by decide +kernel
theorem d_Mod_set_11 : decode prog_9_method_4_code 11 = .ok (.ifCond .ne 5, 3) := by decide +kernel
theorem d_Mod_set_14 : decode prog_9_method_4_code 14 = .ok (.iconst 0, 1) := by decide +kernel
theorem d_Mod_set_15 : decode prog_9_method_4_code 15 = .ok (.ireturn, 1) := by decide +kernel
theorem d_Mod_set_16 : decode prog_9_method_4_code 16 = .ok (.aload_n 0, 1) := by decide +kernel
theorem d_Mod_set_17 : decode prog_9_method_4_code 17 = .ok (.getfield 7, 3) := by decide +kernel
theorem d_Mod_set_20 : decode prog_9_method_4_code 20 = .ok (.bipush 48, 2) := by decide +kernel
theorem d_Mod_set_22 : decode prog_9_method_4_code 22 = .ok (.iload_n 2, 1) := by decide +kernel
theorem d_Mod_set_23 : decode prog_9_method_4_code 23 = .ok (.imul, 1) := by decide +kernel
theorem d_Mod_set_24 : decode prog_9_method_4_code 24 = .ok (.iload_n 1, 1) := by decide +kernel
theorem d_Mod_set_25 : decode prog_9_method_4_code 25 = .ok (.iadd, 1) := by decide +kernel
theorem d_Mod_set_26 : decode prog_9_method_4_code 26 = .ok (.iload_n 3, 1) := by decide +kernel
theorem d_Mod_set_27 : decode prog_9_method_4_code 27 = .ok (.ldc 33, 2) := by decide +kernel
theorem d_Mod_set_29 : decode prog_9_method_4_code 29 = .ok (.iand, 1) := by decide +kernel
theorem d_Mod_set_30 : decode prog_9_method_4_code 30 = .ok (.iastore, 1) := by decide +kernel
theorem d_Mod_set_31 : decode prog_9_method_4_code 31 = .ok (.iconst 1, 1) := by decide +kernel
theorem d_Mod_set_32 : decode prog_9_method_4_code 32 = .ok (.ireturn, 1) := by decide +kernel
abbrev y_Mod_set : MethodName := ⟨"PicturePackerModel", "set", "(III)Z"⟩
def wp_Mod_set (n : Nat → Nat) (Mod_thrown : Int32) (Mod_width : Int32) (Mod_height : Int32) (mc : Nat → Int32) (x1 : Int32) (x2 : Int32) (x3 : Int32) (post : Int32 → Int32 × (Nat → Int32) → Prop) : Prop := wp_Mod_in n Mod_width Mod_height x1 x2 (fun r2 _ => (¬ (r2 : Int32) = 0 → (∀ z4 : Int32, z4 = (x3 &&& 16777215) → (vp_in ((48 * x2) + x1) (n 15) ∧ (∀ f6 : Nat → Int32, f6 = upd mc ((48 * x2) + x1 : Int32).toNatClampNeg z4 → (narrow .boolean (.int 1) = .int 1 ∧ post 1 (0, f6)))))) ∧ ((r2 : Int32) = 0 → (narrow .boolean (.int 0) = .int 0 ∧ post 0 (0, mc))))
set_option maxHeartbeats 2000000 in
set_option maxRecDepth 20000 in
theorem c_Mod_set {l : Launch} {dC : Nat → ClassId} {dI : Nat → Nat → Nat} {cI : ClassId} {tb : Tbs} {a n : Nat → Nat} {Mod_thrown : Int32} {Mod_width : Int32} {Mod_height : Int32} {Mod_many : Int32} {Mod_size : Int32} {Mod_bit : Int32} {Mod_single : Int32} {Mod_runs : Int32} {Mod_longest : Int32} {mc : Nat → Int32} {x1 : Int32} {x2 : Int32} {x3 : Int32} {post : Int32 → Int32 × (Nat → Int32) → Prop} (h : wp_Mod_set n Mod_thrown Mod_width Mod_height mc x1 x2 x3 post) : CtI classes dC dI cI tb l y_Mod_set prog_9_method_4_code 4 .boolean ({ frames := 1, cells := 0, slots := 0, locals := 22 }) [.ref (a 7), .int x1, .int x2, .int x3] [e_Mod a Mod_thrown Mod_width Mod_height Mod_many Mod_size Mod_bit Mod_single Mod_runs Mod_longest, e_ar a n cI 15 mc] (Int32 × (Nat → Int32)) (fun u => [e_Mod a u.1 Mod_width Mod_height Mod_many Mod_size Mod_bit Mod_single Mod_runs Mod_longest, e_ar a n cI 15 u.2]) post := by
  refine startI (by decide) (Nat.le_of_ble_eq_true rfl) ?_
  intro p e s m below meth c ls E hr hlk hnm hl hw
  have hl : lv_has ls 4 [(0, .ref (a 7)), (1, .int x1), (2, .int x2), (3, .int x3)] := hl
  generalize va_A [e_Mod a Mod_thrown Mod_width Mod_height Mod_many Mod_size Mod_bit Mod_single Mod_runs Mod_longest, e_ar a n cI 15 mc] s.heap.size = A at hw ⊢
  obtain ⟨hx, hb, hml, hown, hts⟩ := id E
  unfold wp_Mod_set at h
  refine lv_aload_n hx hb d_Mod_set_0 rfl (lv_at hl 0 rfl) ?_
  refine lv_iconst (v := 0) hx hb d_Mod_set_1 (by decide) ?_
  refine kput (v := .int 0) (ty := .int) (T := F_Mod) (ws' := [e_Mod a 0 Mod_width Mod_height Mod_many Mod_size Mod_bit Mod_single Mod_runs Mod_longest, e_ar a n cI 15 mc]) E hw in_Mod t_Mod t_Mod_ok n_Mod rfl 0 0 rfl (by decide) tw429 rfl rfl rfl rfl (Nat.le_of_ble_eq_true rfl) rfl d_Mod_set_2 (fun H locs hw => ?_)
  refine lv_aload_n hx hb d_Mod_set_5 rfl (lv_at hl 0 rfl) ?_
  refine lv_iload_n hx hb d_Mod_set_6 rfl (lv_at hl 1 rfl) ?_
  refine lv_iload_n hx hb d_Mod_set_7 rfl (lv_at hl 2 rfl) ?_
  refine kVi (y := y_Mod_in) (ws' := fun _ => [e_Mod a 0 Mod_width Mod_height Mod_many Mod_size Mod_bit Mod_single Mod_runs Mod_longest, e_ar a n cI 15 mc]) (wr := [e_ar a n cI 15 mc]) (As := [.int x1, .int x2]) (rest := []) E hw (c_Mod_in (l := l) (dC := dC) (dI := dI) (cI := cI) (tb := tb) (a := a) (n := n) (Mod_thrown := 0) (Mod_width := Mod_width) (Mod_height := Mod_height) (Mod_many := Mod_many) (Mod_size := Mod_size) (Mod_bit := Mod_bit) (Mod_single := Mod_single) (Mod_runs := Mod_runs) (Mod_longest := Mod_longest) (x1 := x1) (x2 := x2) h) tw470 tw472 tw14 tw42 tw473 2 (by decide) ⟨Nat.le_of_ble_eq_true rfl, Nat.le_of_ble_eq_true rfl⟩ ⟨Nat.le_of_ble_eq_true rfl, Nat.le_of_ble_eq_true rfl⟩ ⟨rfl, rfl⟩ rfl rfl 0 rfl [0] [1] [1, 0] rfl rfl rfl rfl (by decide) rfl (fun _ => rfl) hl.1 rfl rfl (Nat.le_of_ble_eq_true rfl) d_Mod_set_8 (fun r2 u1 H locs h hw => ?_)
  refine lv_if_ne (tgt := 16) hx hb d_Mod_set_11 (by decide) (fun c3 => ?_) (fun c3 => ?_)
  · have h := h.1 c3
    refine lv_aload_n hx hb d_Mod_set_16 rfl (lv_at hl 0 rfl) ?_
    refine kget (v := .ref (a 15)) (T := F_Mod) E hw in_Mod rfl 0 3 rfl (by decide) tw432 rfl d_Mod_set_17 ?_
    refine lv_bipush (v := 48) hx hb d_Mod_set_20 (by decide) ?_
    refine lv_iload_n hx hb d_Mod_set_22 rfl (lv_at hl 2 rfl) ?_
    refine lv_imul hx hb d_Mod_set_23 ?_
    refine lv_iload_n hx hb d_Mod_set_24 rfl (lv_at hl 1 rfl) ?_
    refine lv_iadd hx hb d_Mod_set_25 ?_
    refine lv_iload_n hx hb d_Mod_set_26 rfl (lv_at hl 3 rfl) ?_
    refine lv_ldc (v := 16777215) hx hb hown (hts _ tw474) d_Mod_set_27 ?_
    refine lv_iand hx hb d_Mod_set_29 ?_
    refine lv_topi (fun z4 ez4 => ?_)
    have h := h z4 ez4
    obtain ⟨b5, h⟩ := h
    obtain ⟨f6, ef6⟩ : ∃ z : Nat → Int32, z = upd mc ((48 * x2) + x1 : Int32).toNatClampNeg z4 := ⟨_, rfl⟩
    have h := h f6 ef6
    refine kast (ws' := [e_Mod a 0 Mod_width Mod_height Mod_many Mod_size Mod_bit Mod_single Mod_runs Mod_longest, e_ar a n cI 15 f6]) E hw 1 rfl b5 (by rw [ef6]; rfl) d_Mod_set_30 (fun H locs hw => ?_)
    refine lv_iconst (v := 1) hx hb d_Mod_set_31 (by decide) ?_
    exact retI (out := fun u => [e_Mod a u.1 Mod_width Mod_height Mod_many Mod_size Mod_bit Mod_single Mod_runs Mod_longest, e_ar a n cI 15 u.2]) (u := (0, f6)) E hr hlk h.1 hw h.2 d_Mod_set_32
  · have h := h.2 c3
    refine lv_iconst (v := 0) hx hb d_Mod_set_14 (by decide) ?_
    exact retI (out := fun u => [e_Mod a u.1 Mod_width Mod_height Mod_many Mod_size Mod_bit Mod_single Mod_runs Mod_longest, e_ar a n cI 15 u.2]) (u := (0, mc)) E hr hlk h.1 hw h.2 d_Mod_set_15
-- PicturePackerModel.fill(IIII)I
theorem d_Mod_fill_0 : decode prog_9_method_5_code 0 = .ok (.aload_n 0, 1) := by decide +kernel
theorem d_Mod_fill_1 : decode prog_9_method_5_code 1 = .ok (.iconst 0, 1) := by decide +kernel
theorem d_Mod_fill_2 : decode prog_9_method_5_code 2 = .ok (.putfield 26, 3) := by decide +kernel
theorem d_Mod_fill_5 : decode prog_9_method_5_code 5 = .ok (.iconst 0, 1) := by decide +kernel
theorem d_Mod_fill_6 : decode prog_9_method_5_code 6 = .ok (.istore 5, 2) := by decide +kernel
theorem d_Mod_fill_8 : decode prog_9_method_5_code 8 = .ok (.iconst 0, 1) := by decide +kernel
theorem d_Mod_fill_9 : decode prog_9_method_5_code 9 = .ok (.istore 6, 2) := by decide +kernel
theorem d_Mod_fill_11 : decode prog_9_method_5_code 11 = .ok (.iload 6, 2) := by decide +kernel
theorem d_Mod_fill_13 : decode prog_9_method_5_code 13 = .ok (.aload_n 0, 1) := by decide +kernel
theorem d_Mod_fill_14 : decode prog_9_method_5_code 14 = .ok (.getfield 19, 3) := by decide +kernel
theorem d_Mod_fill_17 : decode prog_9_method_5_code 17 = .ok (.if_icmp .ge 51, 3) := by decide +kernel
theorem d_Mod_fill_20 : decode prog_9_method_5_code 20 = .ok (.aload_n 0, 1) := by decide +kernel
theorem d_Mod_fill_21 : decode prog_9_method_5_code 21 = .ok (.iload 6, 2) := by decide +kernel
theorem d_Mod_fill_23 : decode prog_9_method_5_code 23 = .ok (.iload_n 1, 1) := by decide +kernel
theorem d_Mod_fill_24 : decode prog_9_method_5_code 24 = .ok (.invokevirtual 29, 3) := by decide +kernel
theorem d_Mod_fill_27 : decode prog_9_method_5_code 27 = .ok (.ifCond .eq 35, 3) := by decide +kernel
theorem d_Mod_fill_30 : decode prog_9_method_5_code 30 = .ok (.iload 6, 2) := by decide +kernel
theorem d_Mod_fill_32 : decode prog_9_method_5_code 32 = .ok (.iload_n 2, 1) := by decide +kernel
theorem d_Mod_fill_33 : decode prog_9_method_5_code 33 = .ok (.if_icmp .lt 29, 3) := by decide +kernel
theorem d_Mod_fill_36 : decode prog_9_method_5_code 36 = .ok (.iload 6, 2) := by decide +kernel
theorem d_Mod_fill_38 : decode prog_9_method_5_code 38 = .ok (.iload_n 3, 1) := by decide +kernel
theorem d_Mod_fill_39 : decode prog_9_method_5_code 39 = .ok (.if_icmp .gt 23, 3) := by decide +kernel
theorem d_Mod_fill_42 : decode prog_9_method_5_code 42 = .ok (.aload_n 0, 1) := by decide +kernel
theorem d_Mod_fill_43 : decode prog_9_method_5_code 43 = .ok (.getfield 7, 3) := by decide +kernel
theorem d_Mod_fill_46 : decode prog_9_method_5_code 46 = .ok (.bipush 48, 2) := by decide +kernel
theorem d_Mod_fill_48 : decode prog_9_method_5_code 48 = .ok (.iload_n 1, 1) := by decide +kernel
theorem d_Mod_fill_49 : decode prog_9_method_5_code 49 = .ok (.imul, 1) := by decide +kernel
theorem d_Mod_fill_50 : decode prog_9_method_5_code 50 = .ok (.iload 6, 2) := by decide +kernel
theorem d_Mod_fill_52 : decode prog_9_method_5_code 52 = .ok (.iadd, 1) := by decide +kernel
theorem d_Mod_fill_53 : decode prog_9_method_5_code 53 = .ok (.iload 4, 2) := by decide +kernel
theorem d_Mod_fill_55 : decode prog_9_method_5_code 55 = .ok (.ldc 33, 2) := by decide +kernel
theorem d_Mod_fill_57 : decode prog_9_method_5_code 57 = .ok (.iand, 1) := by decide +kernel
theorem d_Mod_fill_58 : decode prog_9_method_5_code 58 = .ok (.iastore, 1) := by decide +kernel
theorem d_Mod_fill_59 : decode prog_9_method_5_code 59 = .ok (.iinc 5 1, 3) := by decide +kernel
theorem d_Mod_fill_62 : decode prog_9_method_5_code 62 = .ok (.iinc 6 1, 3) := by decide +kernel
theorem d_Mod_fill_65 : decode prog_9_method_5_code 65 = .ok (.goto (-54), 3) := by decide +kernel
theorem d_Mod_fill_68 : decode prog_9_method_5_code 68 = .ok (.iload 5, 2) := by decide +kernel
theorem d_Mod_fill_70 : decode prog_9_method_5_code 70 = .ok (.ireturn, 1) := by decide +kernel
abbrev y_Mod_fill : MethodName := ⟨"PicturePackerModel", "fill", "(IIII)I"⟩
def wp_Mod_fill_11 (n : Nat → Nat) (Mod_width : Int32) (Mod_height : Int32) (x1 : Int32) (x2 : Int32) (x3 : Int32) (x4 : Int32) (post : Int32 → Int32 × (Nat → Int32) → Prop) : Nat → Int32 → (Nat → Int32) → Int32 → Int32 → Prop
  | 0 => fun _ _ _ _ => False
  | N + 1 => fun Mod_thrown mc y5 y6 => ((Mod_width : Int32) ≤ y6 → (post y5 (Mod_thrown, mc))) ∧ (¬ ((Mod_width : Int32) ≤ y6) → (wp_Mod_in n Mod_width Mod_height y6 x1 (fun r3 _ => ((r3 : Int32) = 0 → (∀ z5 : Int32, z5 = (y6 + 1) → (wp_Mod_fill_11 n Mod_width Mod_height x1 x2 x3 x4 post N Mod_thrown mc y5 z5))) ∧ (¬ ((r3 : Int32) = 0) → (((y6 : Int32) < x2 → (∀ z7 : Int32, z7 = (y6 + 1) → (wp_Mod_fill_11 n Mod_width Mod_height x1 x2 x3 x4 post N Mod_thrown mc y5 z7))) ∧ (¬ ((y6 : Int32) < x2) → (((x3 : Int32) < y6 → (∀ z9 : Int32, z9 = (y6 + 1) → (wp_Mod_fill_11 n Mod_width Mod_height x1 x2 x3 x4 post N Mod_thrown mc y5 z9))) ∧ (¬ ((x3 : Int32) < y6) → (∀ z10 : Int32, z10 = (x4 &&& 16777215) → (vp_in ((48 * x1) + y6) (n 15) ∧ (∀ f12 : Nat → Int32, f12 = upd mc ((48 * x1) + y6 : Int32).toNatClampNeg z10 → (∀ z13 : Int32, z13 = (y5 + 1) → (∀ z14 : Int32, z14 = (y6 + 1) → (wp_Mod_fill_11 n Mod_width Mod_height x1 x2 x3 x4 post N Mod_thrown f12 z13 z14))))))))))))))
def wp_Mod_fill (n : Nat → Nat) (Mod_thrown : Int32) (Mod_width : Int32) (Mod_height : Int32) (mc : Nat → Int32) (x1 : Int32) (x2 : Int32) (x3 : Int32) (x4 : Int32) (post : Int32 → Int32 × (Nat → Int32) → Prop) : Prop := ∃ N15 : Nat, wp_Mod_fill_11 n Mod_width Mod_height x1 x2 x3 x4 post N15 0 mc 0 0
set_option maxHeartbeats 2000000 in
set_option maxRecDepth 20000 in
theorem s_Mod_fill_11 {l : Launch} {dC : Nat → ClassId} {dI : Nat → Nat → Nat} {cI : ClassId} {tb : Tbs} {a n : Nat → Nat} {p : Program} {e : Env} {s : State} {m : MethodId} {args : Array Value} {below : List Frame} {meth : Method} {c : Code} {A : Nat → Prop} (E : CallFix p m c prog_9_method_5_code 7 s args TBL "PicturePackerModel") (hr : meth.sig.returnType = some .int) (hlk : meth.locks = false) {Mod_width : Int32} {Mod_height : Int32} {Mod_many : Int32} {Mod_size : Int32} {Mod_bit : Int32} {Mod_single : Int32} {Mod_runs : Int32} {Mod_longest : Int32} {x1 : Int32} {x2 : Int32} {x3 : Int32} {x4 : Int32} {post : Int32 → Int32 × (Nat → Int32) → Prop} : ∀ (N : Nat) (Mod_thrown : Int32) (mc : Nat → Int32) (y5 : Int32) (y6 : Int32) (H : Heap) (locs : List Loc) (ls : Array Slot), Wl classes dC dI cI tb A s H locs [e_Mod a Mod_thrown Mod_width Mod_height Mod_many Mod_size Mod_bit Mod_single Mod_runs Mod_longest, e_ar a n cI 15 mc] → lv_has ls 7 [(0, .ref (a 7)), (1, .int x1), (2, .int x2), (3, .int x3), (4, .int x4), (5, .int y5), (6, .int y6)] → wp_Mod_fill_11 n Mod_width Mod_height x1 x2 x3 x4 post N Mod_thrown mc y5 y6 → W p l e ({ frames := 1, cells := 0, slots := 0, locals := 22 }) s m args below meth c H locs 0 0 (MQ below (va_Qi post (fun u => End0 classes dC dI cI A [e_Mod a u.1 Mod_width Mod_height Mod_many Mod_size Mod_bit Mod_single Mod_runs Mod_longest, e_ar a n cI 15 u.2]) A) args s 0 0 A) (F0 m 11 ls []) := by
  obtain ⟨hx, hb, hml, hown, hts⟩ := id E
  intro N
  induction N with
  | zero =>
    intro _ _ _ _ H locs ls hw hl h
    exact absurd h id
  | succ N ih =>
    intro Mod_thrown mc y5 y6 H locs ls hw hl h
    unfold wp_Mod_fill_11 at h
    refine lv_iload hx hb d_Mod_fill_11 (lv_at hl 6 rfl) ?_
    refine lv_aload_n hx hb d_Mod_fill_13 rfl (lv_at hl 0 rfl) ?_
    refine kget (v := .int Mod_width) (T := F_Mod) E hw in_Mod rfl 0 1 rfl (by decide) tw430 rfl d_Mod_fill_14 ?_
    refine lv_icmp_ge (tgt := 68) hx hb d_Mod_fill_17 (by decide) (fun c1 => ?_) (fun c1 => ?_)
    · have h := h.1 c1
      refine lv_iload hx hb d_Mod_fill_68 (lv_at hl 5 rfl) ?_
      exact retI (out := fun u => [e_Mod a u.1 Mod_width Mod_height Mod_many Mod_size Mod_bit Mod_single Mod_runs Mod_longest, e_ar a n cI 15 u.2]) (u := (Mod_thrown, mc)) E hr hlk rfl hw h d_Mod_fill_70
    · have h := h.2 c1
      refine lv_aload_n hx hb d_Mod_fill_20 rfl (lv_at hl 0 rfl) ?_
      refine lv_iload hx hb d_Mod_fill_21 (lv_at hl 6 rfl) ?_
      refine lv_iload_n hx hb d_Mod_fill_23 rfl (lv_at hl 1 rfl) ?_
      refine kVi (y := y_Mod_in) (ws' := fun _ => [e_Mod a Mod_thrown Mod_width Mod_height Mod_many Mod_size Mod_bit Mod_single Mod_runs Mod_longest, e_ar a n cI 15 mc]) (wr := [e_ar a n cI 15 mc]) (As := [.int y6, .int x1]) (rest := []) E hw (c_Mod_in (l := l) (dC := dC) (dI := dI) (cI := cI) (tb := tb) (a := a) (n := n) (Mod_thrown := Mod_thrown) (Mod_width := Mod_width) (Mod_height := Mod_height) (Mod_many := Mod_many) (Mod_size := Mod_size) (Mod_bit := Mod_bit) (Mod_single := Mod_single) (Mod_runs := Mod_runs) (Mod_longest := Mod_longest) (x1 := y6) (x2 := x1) h) tw470 tw472 tw14 tw42 tw473 2 (by decide) ⟨Nat.le_of_ble_eq_true rfl, Nat.le_of_ble_eq_true rfl⟩ ⟨Nat.le_of_ble_eq_true rfl, Nat.le_of_ble_eq_true rfl⟩ ⟨rfl, rfl⟩ rfl rfl 0 rfl [0] [1] [1, 0] rfl rfl rfl rfl (by decide) rfl (fun _ => rfl) hl.1 rfl rfl (Nat.le_of_ble_eq_true rfl) d_Mod_fill_24 (fun r3 u2 H locs h hw => ?_)
      refine lv_if_eq (tgt := 62) hx hb d_Mod_fill_27 (by decide) (fun c4 => ?_) (fun c4 => ?_)
      · have h := h.1 c4
        obtain ⟨z5, ez5⟩ : ∃ z : Int32, z = y6 + 1 := ⟨_, rfl⟩
        have h := h z5 ez5
        refine lv_iinc (v := z5) (lv' := [(6, .int z5), (0, .ref (a 7)), (1, .int x1), (2, .int x2), (3, .int x3), (4, .int x4), (5, .int y5)]) hx hb d_Mod_fill_62 hl (k := 6) rfl (by rw [ez5]; exact congrArg (y6 + ·) (by decide)) (by decide) rfl (fun ls hl => ?_)
        refine lv_goto (tgt := 11) hx hb d_Mod_fill_65 (by decide) ?_
        exact ih Mod_thrown mc y5 z5 _ _ ls hw (lv_sub hl [1, 2, 3, 4, 5, 6, 0] rfl) h
      · have h := h.2 c4
        refine lv_iload hx hb d_Mod_fill_30 (lv_at hl 6 rfl) ?_
        refine lv_iload_n hx hb d_Mod_fill_32 rfl (lv_at hl 2 rfl) ?_
        refine lv_icmp_lt (tgt := 62) hx hb d_Mod_fill_33 (by decide) (fun c6 => ?_) (fun c6 => ?_)
        · have h := h.1 c6
          obtain ⟨z7, ez7⟩ : ∃ z : Int32, z = y6 + 1 := ⟨_, rfl⟩
          have h := h z7 ez7
          refine lv_iinc (v := z7) (lv' := [(6, .int z7), (0, .ref (a 7)), (1, .int x1), (2, .int x2), (3, .int x3), (4, .int x4), (5, .int y5)]) hx hb d_Mod_fill_62 hl (k := 6) rfl (by rw [ez7]; exact congrArg (y6 + ·) (by decide)) (by decide) rfl (fun ls hl => ?_)
          refine lv_goto (tgt := 11) hx hb d_Mod_fill_65 (by decide) ?_
          exact ih Mod_thrown mc y5 z7 _ _ ls hw (lv_sub hl [1, 2, 3, 4, 5, 6, 0] rfl) h
        · have h := h.2 c6
          refine lv_iload hx hb d_Mod_fill_36 (lv_at hl 6 rfl) ?_
          refine lv_iload_n hx hb d_Mod_fill_38 rfl (lv_at hl 3 rfl) ?_
          refine lv_icmp_gt (tgt := 62) hx hb d_Mod_fill_39 (by decide) (fun c8 => ?_) (fun c8 => ?_)
          · have h := h.1 c8
            obtain ⟨z9, ez9⟩ : ∃ z : Int32, z = y6 + 1 := ⟨_, rfl⟩
            have h := h z9 ez9
            refine lv_iinc (v := z9) (lv' := [(6, .int z9), (0, .ref (a 7)), (1, .int x1), (2, .int x2), (3, .int x3), (4, .int x4), (5, .int y5)]) hx hb d_Mod_fill_62 hl (k := 6) rfl (by rw [ez9]; exact congrArg (y6 + ·) (by decide)) (by decide) rfl (fun ls hl => ?_)
            refine lv_goto (tgt := 11) hx hb d_Mod_fill_65 (by decide) ?_
            exact ih Mod_thrown mc y5 z9 _ _ ls hw (lv_sub hl [1, 2, 3, 4, 5, 6, 0] rfl) h
          · have h := h.2 c8
            refine lv_aload_n hx hb d_Mod_fill_42 rfl (lv_at hl 0 rfl) ?_
            refine kget (v := .ref (a 15)) (T := F_Mod) E hw in_Mod rfl 0 3 rfl (by decide) tw432 rfl d_Mod_fill_43 ?_
            refine lv_bipush (v := 48) hx hb d_Mod_fill_46 (by decide) ?_
            refine lv_iload_n hx hb d_Mod_fill_48 rfl (lv_at hl 1 rfl) ?_
            refine lv_imul hx hb d_Mod_fill_49 ?_
            refine lv_iload hx hb d_Mod_fill_50 (lv_at hl 6 rfl) ?_
            refine lv_iadd hx hb d_Mod_fill_52 ?_
            refine lv_iload hx hb d_Mod_fill_53 (lv_at hl 4 rfl) ?_
            refine lv_ldc (v := 16777215) hx hb hown (hts _ tw474) d_Mod_fill_55 ?_
            refine lv_iand hx hb d_Mod_fill_57 ?_
            refine lv_topi (fun z10 ez10 => ?_)
            have h := h z10 ez10
            obtain ⟨b11, h⟩ := h
            obtain ⟨f12, ef12⟩ : ∃ z : Nat → Int32, z = upd mc ((48 * x1) + y6 : Int32).toNatClampNeg z10 := ⟨_, rfl⟩
            have h := h f12 ef12
            refine kast (ws' := [e_Mod a Mod_thrown Mod_width Mod_height Mod_many Mod_size Mod_bit Mod_single Mod_runs Mod_longest, e_ar a n cI 15 f12]) E hw 1 rfl b11 (by rw [ef12]; rfl) d_Mod_fill_58 (fun H locs hw => ?_)
            obtain ⟨z13, ez13⟩ : ∃ z : Int32, z = y5 + 1 := ⟨_, rfl⟩
            have h := h z13 ez13
            refine lv_iinc (v := z13) (lv' := [(5, .int z13), (0, .ref (a 7)), (1, .int x1), (2, .int x2), (3, .int x3), (4, .int x4), (6, .int y6)]) hx hb d_Mod_fill_59 hl (k := 5) rfl (by rw [ez13]; exact congrArg (y5 + ·) (by decide)) (by decide) rfl (fun ls hl => ?_)
            obtain ⟨z14, ez14⟩ : ∃ z : Int32, z = y6 + 1 := ⟨_, rfl⟩
            have h := h z14 ez14
            refine lv_iinc (v := z14) (lv' := [(6, .int z14), (5, .int z13), (0, .ref (a 7)), (1, .int x1), (2, .int x2), (3, .int x3), (4, .int x4)]) hx hb d_Mod_fill_62 hl (k := 6) rfl (by rw [ez14]; exact congrArg (y6 + ·) (by decide)) (by decide) rfl (fun ls hl => ?_)
            refine lv_goto (tgt := 11) hx hb d_Mod_fill_65 (by decide) ?_
            exact ih Mod_thrown f12 z13 z14 _ _ ls hw (lv_sub hl [2, 3, 4, 5, 6, 1, 0] rfl) h
set_option maxHeartbeats 2000000 in
set_option maxRecDepth 20000 in
theorem c_Mod_fill {l : Launch} {dC : Nat → ClassId} {dI : Nat → Nat → Nat} {cI : ClassId} {tb : Tbs} {a n : Nat → Nat} {Mod_thrown : Int32} {Mod_width : Int32} {Mod_height : Int32} {Mod_many : Int32} {Mod_size : Int32} {Mod_bit : Int32} {Mod_single : Int32} {Mod_runs : Int32} {Mod_longest : Int32} {mc : Nat → Int32} {x1 : Int32} {x2 : Int32} {x3 : Int32} {x4 : Int32} {post : Int32 → Int32 × (Nat → Int32) → Prop} (h : wp_Mod_fill n Mod_thrown Mod_width Mod_height mc x1 x2 x3 x4 post) : CtI classes dC dI cI tb l y_Mod_fill prog_9_method_5_code 7 .int ({ frames := 1, cells := 0, slots := 0, locals := 22 }) [.ref (a 7), .int x1, .int x2, .int x3, .int x4] [e_Mod a Mod_thrown Mod_width Mod_height Mod_many Mod_size Mod_bit Mod_single Mod_runs Mod_longest, e_ar a n cI 15 mc] (Int32 × (Nat → Int32)) (fun u => [e_Mod a u.1 Mod_width Mod_height Mod_many Mod_size Mod_bit Mod_single Mod_runs Mod_longest, e_ar a n cI 15 u.2]) post := by
  refine startI (by decide) (Nat.le_of_ble_eq_true rfl) ?_
  intro p e s m below meth c ls E hr hlk hnm hl hw
  have hl : lv_has ls 7 [(0, .ref (a 7)), (1, .int x1), (2, .int x2), (3, .int x3), (4, .int x4)] := hl
  generalize va_A [e_Mod a Mod_thrown Mod_width Mod_height Mod_many Mod_size Mod_bit Mod_single Mod_runs Mod_longest, e_ar a n cI 15 mc] s.heap.size = A at hw ⊢
  obtain ⟨hx, hb, hml, hown, hts⟩ := id E
  unfold wp_Mod_fill at h
  refine lv_aload_n hx hb d_Mod_fill_0 rfl (lv_at hl 0 rfl) ?_
  refine lv_iconst (v := 0) hx hb d_Mod_fill_1 (by decide) ?_
  refine kput (v := .int 0) (ty := .int) (T := F_Mod) (ws' := [e_Mod a 0 Mod_width Mod_height Mod_many Mod_size Mod_bit Mod_single Mod_runs Mod_longest, e_ar a n cI 15 mc]) E hw in_Mod t_Mod t_Mod_ok n_Mod rfl 0 0 rfl (by decide) tw429 rfl rfl rfl rfl (Nat.le_of_ble_eq_true rfl) rfl d_Mod_fill_2 (fun H locs hw => ?_)
  refine lv_iconst (v := 0) hx hb d_Mod_fill_5 (by decide) ?_
  refine lv_istore (lv' := [(5, .int 0), (0, .ref (a 7)), (1, .int x1), (2, .int x2), (3, .int x3), (4, .int x4)]) hx hb d_Mod_fill_6 hl (by decide) rfl (fun ls hl => ?_)
  refine lv_iconst (v := 0) hx hb d_Mod_fill_8 (by decide) ?_
  refine lv_istore (lv' := [(6, .int 0), (5, .int 0), (0, .ref (a 7)), (1, .int x1), (2, .int x2), (3, .int x3), (4, .int x4)]) hx hb d_Mod_fill_9 hl (by decide) rfl (fun ls hl => ?_)
  obtain ⟨N15, h⟩ := h
  exact s_Mod_fill_11 (a := a) (n := n) (tb := tb) E hr hlk  N15 0 mc 0 0 _ _ ls hw (lv_sub hl [2, 3, 4, 5, 6, 1, 0] rfl) h
-- PicturePackerModel.pixel(II)I
theorem d_Mod_pixel_0 : decode prog_9_method_6_code 0 = .ok (.aload_n 0, 1) := by decide +kernel
theorem d_Mod_pixel_1 : decode prog_9_method_6_code 1 = .ok (.iconst 0, 1) := by decide +kernel
theorem d_Mod_pixel_2 : decode prog_9_method_6_code 2 = .ok (.putfield 26, 3) := by decide +kernel
theorem d_Mod_pixel_5 : decode prog_9_method_6_code 5 = .ok (.aload_n 0, 1) := by decide +kernel
theorem d_Mod_pixel_6 : decode prog_9_method_6_code 6 = .ok (.iload_n 1, 1) := by decide +kernel
theorem d_Mod_pixel_7 : decode prog_9_method_6_code 7 = .ok (.iload_n 2, 1) := by decide +kernel
theorem d_Mod_pixel_8 : decode prog_9_method_6_code 8 = .ok (.invokevirtual 29, 3) := by decide +kernel
theorem d_Mod_pixel_11 : decode prog_9_method_6_code 11 = .ok (.ifCond .eq 17, 3) := by decide +kernel
theorem d_Mod_pixel_14 : decode prog_9_method_6_code 14 = .ok (.aload_n 0, 1) := by decide +kernel
theorem d_Mod_pixel_15 : decode prog_9_method_6_code 15 = .ok (.getfield 7, 3) := by decide +kernel
theorem d_Mod_pixel_18 : decode prog_9_method_6_code 18 = .ok (.bipush 48, 2) := by decide +kernel
theorem d_Mod_pixel_20 : decode prog_9_method_6_code 20 = .ok (.iload_n 2, 1) := by decide +kernel
theorem d_Mod_pixel_21 : decode prog_9_method_6_code 21 = .ok (.imul, 1) := by decide +kernel
theorem d_Mod_pixel_22 : decode prog_9_method_6_code 22 = .ok (.iload_n 1, 1) := by decide +kernel
theorem d_Mod_pixel_23 : decode prog_9_method_6_code 23 = .ok (.iadd, 1) := by decide +kernel
theorem d_Mod_pixel_24 : decode prog_9_method_6_code 24 = .ok (.iaload, 1) := by decide +kernel
theorem d_Mod_pixel_25 : decode prog_9_method_6_code 25 = .ok (.goto 4, 3) := by decide +kernel
theorem d_Mod_pixel_28 : decode prog_9_method_6_code 28 = .ok (.iconst (-1), 1) := by decide +kernel
theorem d_Mod_pixel_29 : decode prog_9_method_6_code 29 = .ok (.ireturn, 1) := by decide +kernel
abbrev y_Mod_pixel : MethodName := ⟨"PicturePackerModel", "pixel", "(II)I"⟩
def wp_Mod_pixel (n : Nat → Nat) (Mod_thrown : Int32) (Mod_width : Int32) (Mod_height : Int32) (mc : Nat → Int32) (x1 : Int32) (x2 : Int32) (post : Int32 → Int32 → Prop) : Prop := wp_Mod_in n Mod_width Mod_height x1 x2 (fun r2 _ => ((r2 : Int32) = 0 → (post ((-1)) 0)) ∧ (¬ ((r2 : Int32) = 0) → (vp_in ((48 * x2) + x1) (n 15) ∧ (post (mc ((48 * x2) + x1 : Int32).toNatClampNeg) 0))))
set_option maxHeartbeats 2000000 in
set_option maxRecDepth 20000 in
theorem c_Mod_pixel {l : Launch} {dC : Nat → ClassId} {dI : Nat → Nat → Nat} {cI : ClassId} {tb : Tbs} {a n : Nat → Nat} {Mod_thrown : Int32} {Mod_width : Int32} {Mod_height : Int32} {Mod_many : Int32} {Mod_size : Int32} {Mod_bit : Int32} {Mod_single : Int32} {Mod_runs : Int32} {Mod_longest : Int32} {mc : Nat → Int32} {x1 : Int32} {x2 : Int32} {post : Int32 → Int32 → Prop} (h : wp_Mod_pixel n Mod_thrown Mod_width Mod_height mc x1 x2 post) : CtI classes dC dI cI tb l y_Mod_pixel prog_9_method_6_code 3 .int ({ frames := 1, cells := 0, slots := 0, locals := 22 }) [.ref (a 7), .int x1, .int x2] [e_Mod a Mod_thrown Mod_width Mod_height Mod_many Mod_size Mod_bit Mod_single Mod_runs Mod_longest, e_ar a n cI 15 mc] (Int32) (fun u => [e_Mod a u Mod_width Mod_height Mod_many Mod_size Mod_bit Mod_single Mod_runs Mod_longest, e_ar a n cI 15 mc]) post := by
  refine startI (by decide) (Nat.le_of_ble_eq_true rfl) ?_
  intro p e s m below meth c ls E hr hlk hnm hl hw
  have hl : lv_has ls 3 [(0, .ref (a 7)), (1, .int x1), (2, .int x2)] := hl
  generalize va_A [e_Mod a Mod_thrown Mod_width Mod_height Mod_many Mod_size Mod_bit Mod_single Mod_runs Mod_longest, e_ar a n cI 15 mc] s.heap.size = A at hw ⊢
  obtain ⟨hx, hb, hml, hown, hts⟩ := id E
  unfold wp_Mod_pixel at h
  refine lv_aload_n hx hb d_Mod_pixel_0 rfl (lv_at hl 0 rfl) ?_
  refine lv_iconst (v := 0) hx hb d_Mod_pixel_1 (by decide) ?_
  refine kput (v := .int 0) (ty := .int) (T := F_Mod) (ws' := [e_Mod a 0 Mod_width Mod_height Mod_many Mod_size Mod_bit Mod_single Mod_runs Mod_longest, e_ar a n cI 15 mc]) E hw in_Mod t_Mod t_Mod_ok n_Mod rfl 0 0 rfl (by decide) tw429 rfl rfl rfl rfl (Nat.le_of_ble_eq_true rfl) rfl d_Mod_pixel_2 (fun H locs hw => ?_)
  refine lv_aload_n hx hb d_Mod_pixel_5 rfl (lv_at hl 0 rfl) ?_
  refine lv_iload_n hx hb d_Mod_pixel_6 rfl (lv_at hl 1 rfl) ?_
  refine lv_iload_n hx hb d_Mod_pixel_7 rfl (lv_at hl 2 rfl) ?_
  refine kVi (y := y_Mod_in) (ws' := fun _ => [e_Mod a 0 Mod_width Mod_height Mod_many Mod_size Mod_bit Mod_single Mod_runs Mod_longest, e_ar a n cI 15 mc]) (wr := [e_ar a n cI 15 mc]) (As := [.int x1, .int x2]) (rest := []) E hw (c_Mod_in (l := l) (dC := dC) (dI := dI) (cI := cI) (tb := tb) (a := a) (n := n) (Mod_thrown := 0) (Mod_width := Mod_width) (Mod_height := Mod_height) (Mod_many := Mod_many) (Mod_size := Mod_size) (Mod_bit := Mod_bit) (Mod_single := Mod_single) (Mod_runs := Mod_runs) (Mod_longest := Mod_longest) (x1 := x1) (x2 := x2) h) tw470 tw472 tw14 tw42 tw473 2 (by decide) ⟨Nat.le_of_ble_eq_true rfl, Nat.le_of_ble_eq_true rfl⟩ ⟨Nat.le_of_ble_eq_true rfl, Nat.le_of_ble_eq_true rfl⟩ ⟨rfl, rfl⟩ rfl rfl 0 rfl [0] [1] [1, 0] rfl rfl rfl rfl (by decide) rfl (fun _ => rfl) hl.1 rfl rfl (Nat.le_of_ble_eq_true rfl) d_Mod_pixel_8 (fun r2 u1 H locs h hw => ?_)
  refine lv_if_eq (tgt := 28) hx hb d_Mod_pixel_11 (by decide) (fun c3 => ?_) (fun c3 => ?_)
  · have h := h.1 c3
    refine lv_iconst (v := (-1)) hx hb d_Mod_pixel_28 (by decide) ?_
    exact retI (out := fun u => [e_Mod a u Mod_width Mod_height Mod_many Mod_size Mod_bit Mod_single Mod_runs Mod_longest, e_ar a n cI 15 mc]) (u := 0) E hr hlk rfl hw h d_Mod_pixel_29
  · have h := h.2 c3
    refine lv_aload_n hx hb d_Mod_pixel_14 rfl (lv_at hl 0 rfl) ?_
    refine kget (v := .ref (a 15)) (T := F_Mod) E hw in_Mod rfl 0 3 rfl (by decide) tw432 rfl d_Mod_pixel_15 ?_
    refine lv_bipush (v := 48) hx hb d_Mod_pixel_18 (by decide) ?_
    refine lv_iload_n hx hb d_Mod_pixel_20 rfl (lv_at hl 2 rfl) ?_
    refine lv_imul hx hb d_Mod_pixel_21 ?_
    refine lv_iload_n hx hb d_Mod_pixel_22 rfl (lv_at hl 1 rfl) ?_
    refine lv_iadd hx hb d_Mod_pixel_23 ?_
    obtain ⟨b4, h⟩ := h
    refine kald E hw 1 rfl b4 d_Mod_pixel_24 ?_
    refine lv_goto (tgt := 29) hx hb d_Mod_pixel_25 (by decide) ?_
    exact retI (out := fun u => [e_Mod a u Mod_width Mod_height Mod_many Mod_size Mod_bit Mod_single Mod_runs Mod_longest, e_ar a n cI 15 mc]) (u := 0) E hr hlk rfl hw h d_Mod_pixel_29
-- PicturePackerModel.byteOf(II)I
theorem d_Mod_byteOf_0 : decode prog_9_method_7_code 0 = .ok (.iload_n 1, 1) := by decide +kernel
theorem d_Mod_byteOf_1 : decode prog_9_method_7_code 1 = .ok (.ifCond .lt 7, 3) := by decide +kernel
theorem d_Mod_byteOf_4 : decode prog_9_method_7_code 4 = .ok (.iload_n 2, 1) := by decide +kernel
theorem d_Mod_byteOf_5 : decode prog_9_method_7_code 5 = .ok (.ifCond .ge 5, 3) := by decide +kernel
theorem d_Mod_byteOf_8 : decode prog_9_method_7_code 8 = .ok (.iconst 0, 1) := by decide +kernel
theorem d_Mod_byteOf_9 : decode prog_9_method_7_code 9 = .ok (.ireturn, 1) := by decide +kernel
theorem d_Mod_byteOf_10 : decode prog_9_method_7_code 10 = .ok (.aload_n 0, 1) := by decide +kernel
theorem d_Mod_byteOf_11 : decode prog_9_method_7_code 11 = .ok (.getfield 7, 3) := by decide +kernel
theorem d_Mod_byteOf_14 : decode prog_9_method_7_code 14 = .ok (.bipush 48, 2) := by decide +kernel
theorem d_Mod_byteOf_16 : decode prog_9_method_7_code 16 = .ok (.iload_n 2, 1) := by decide +kernel
theorem d_Mod_byteOf_17 : decode prog_9_method_7_code 17 = .ok (.imul, 1) := by decide +kernel
theorem d_Mod_byteOf_18 : decode prog_9_method_7_code 18 = .ok (.iload_n 1, 1) := by decide +kernel
theorem d_Mod_byteOf_19 : decode prog_9_method_7_code 19 = .ok (.iconst 3, 1) := by decide +kernel
theorem d_Mod_byteOf_20 : decode prog_9_method_7_code 20 = .ok (.idiv, 1) := by decide +kernel
theorem d_Mod_byteOf_21 : decode prog_9_method_7_code 21 = .ok (.iadd, 1) := by decide +kernel
theorem d_Mod_byteOf_22 : decode prog_9_method_7_code 22 = .ok (.iaload, 1) := by decide +kernel
theorem d_Mod_byteOf_23 : decode prog_9_method_7_code 23 = .ok (.bipush 16, 2) := by decide +kernel
theorem d_Mod_byteOf_25 : decode prog_9_method_7_code 25 = .ok (.bipush 8, 2) := by decide +kernel
theorem d_Mod_byteOf_27 : decode prog_9_method_7_code 27 = .ok (.iload_n 1, 1) := by decide +kernel
theorem d_Mod_byteOf_28 : decode prog_9_method_7_code 28 = .ok (.iconst 3, 1) := by decide +kernel
theorem d_Mod_byteOf_29 : decode prog_9_method_7_code 29 = .ok (.irem, 1) := by decide +kernel
theorem d_Mod_byteOf_30 : decode prog_9_method_7_code 30 = .ok (.imul, 1) := by decide +kernel
theorem d_Mod_byteOf_31 : decode prog_9_method_7_code 31 = .ok (.isub, 1) := by decide +kernel
theorem d_Mod_byteOf_32 : decode prog_9_method_7_code 32 = .ok (.ishr, 1) := by decide +kernel
theorem d_Mod_byteOf_33 : decode prog_9_method_7_code 33 = .ok (.sipush 255, 3) := by decide +kernel
theorem d_Mod_byteOf_36 : decode prog_9_method_7_code 36 = .ok (.iand, 1) := by decide +kernel
theorem d_Mod_byteOf_37 : decode prog_9_method_7_code 37 = .ok (.ireturn, 1) := by decide +kernel
abbrev y_Mod_byteOf : MethodName := ⟨"PicturePackerModel", "byteOf", "(II)I"⟩
def wp_Mod_byteOf (n : Nat → Nat) (mc : Nat → Int32) (x1 : Int32) (x2 : Int32) (post : Int32 → Unit → Prop) : Prop := ((x1 : Int32) < 0 → (post 0 ())) ∧ (¬ ((x1 : Int32) < 0) → (((0 : Int32) ≤ x2 → (vp_in ((48 * x2) + (x1 / 3)) (n 15) ∧ (post (((mc ((48 * x2) + (x1 / 3) : Int32).toNatClampNeg : Int32) >>> (16 - (8 * (x1 - x1 / 3 * 3)) &&& 31)) &&& 255) ()))) ∧ (¬ ((0 : Int32) ≤ x2) → (post 0 ()))))
set_option maxHeartbeats 2000000 in
set_option maxRecDepth 20000 in
theorem c_Mod_byteOf {l : Launch} {dC : Nat → ClassId} {dI : Nat → Nat → Nat} {cI : ClassId} {tb : Tbs} {a n : Nat → Nat} {Mod_thrown : Int32} {Mod_width : Int32} {Mod_height : Int32} {Mod_many : Int32} {Mod_size : Int32} {Mod_bit : Int32} {Mod_single : Int32} {Mod_runs : Int32} {Mod_longest : Int32} {mc : Nat → Int32} {x1 : Int32} {x2 : Int32} {post : Int32 → Unit → Prop} (h : wp_Mod_byteOf n mc x1 x2 post) : CtI classes dC dI cI tb l y_Mod_byteOf prog_9_method_7_code 3 .int ({ frames := 0, cells := 0, slots := 0, locals := 0 }) [.ref (a 7), .int x1, .int x2] [e_Mod a Mod_thrown Mod_width Mod_height Mod_many Mod_size Mod_bit Mod_single Mod_runs Mod_longest, e_ar a n cI 15 mc] (Unit) (fun _ => [e_Mod a Mod_thrown Mod_width Mod_height Mod_many Mod_size Mod_bit Mod_single Mod_runs Mod_longest, e_ar a n cI 15 mc]) post := by
  refine startI (by decide) (Nat.le_of_ble_eq_true rfl) ?_
  intro p e s m below meth c ls E hr hlk hnm hl hw
  have hl : lv_has ls 3 [(0, .ref (a 7)), (1, .int x1), (2, .int x2)] := hl
  generalize va_A [e_Mod a Mod_thrown Mod_width Mod_height Mod_many Mod_size Mod_bit Mod_single Mod_runs Mod_longest, e_ar a n cI 15 mc] s.heap.size = A at hw ⊢
  obtain ⟨hx, hb, hml, hown, hts⟩ := id E
  unfold wp_Mod_byteOf at h
  refine lv_iload_n hx hb d_Mod_byteOf_0 rfl (lv_at hl 1 rfl) ?_
  refine lv_if_lt (tgt := 8) hx hb d_Mod_byteOf_1 (by decide) (fun c1 => ?_) (fun c1 => ?_)
  · have h := h.1 c1
    refine lv_iconst (v := 0) hx hb d_Mod_byteOf_8 (by decide) ?_
    exact retI (out := fun u => [e_Mod a Mod_thrown Mod_width Mod_height Mod_many Mod_size Mod_bit Mod_single Mod_runs Mod_longest, e_ar a n cI 15 mc]) (u := ()) E hr hlk rfl hw h d_Mod_byteOf_9
  · have h := h.2 c1
    refine lv_iload_n hx hb d_Mod_byteOf_4 rfl (lv_at hl 2 rfl) ?_
    refine lv_if_ge (tgt := 10) hx hb d_Mod_byteOf_5 (by decide) (fun c2 => ?_) (fun c2 => ?_)
    · have h := h.1 c2
      refine lv_aload_n hx hb d_Mod_byteOf_10 rfl (lv_at hl 0 rfl) ?_
      refine kget (v := .ref (a 15)) (T := F_Mod) E hw in_Mod rfl 0 3 rfl (by decide) tw432 rfl d_Mod_byteOf_11 ?_
      refine lv_bipush (v := 48) hx hb d_Mod_byteOf_14 (by decide) ?_
      refine lv_iload_n hx hb d_Mod_byteOf_16 rfl (lv_at hl 2 rfl) ?_
      refine lv_imul hx hb d_Mod_byteOf_17 ?_
      refine lv_iload_n hx hb d_Mod_byteOf_18 rfl (lv_at hl 1 rfl) ?_
      refine lv_iconst (v := 3) hx hb d_Mod_byteOf_19 (by decide) ?_
      refine lv_idiv hx hb d_Mod_byteOf_20 (by decide) ?_
      refine lv_iadd hx hb d_Mod_byteOf_21 ?_
      obtain ⟨b3, h⟩ := h
      refine kald E hw 1 rfl b3 d_Mod_byteOf_22 ?_
      refine lv_bipush (v := 16) hx hb d_Mod_byteOf_23 (by decide) ?_
      refine lv_bipush (v := 8) hx hb d_Mod_byteOf_25 (by decide) ?_
      refine lv_iload_n hx hb d_Mod_byteOf_27 rfl (lv_at hl 1 rfl) ?_
      refine lv_iconst (v := 3) hx hb d_Mod_byteOf_28 (by decide) ?_
      refine lv_irem hx hb d_Mod_byteOf_29 (by decide) ?_
      refine lv_imul hx hb d_Mod_byteOf_30 ?_
      refine lv_isub hx hb d_Mod_byteOf_31 ?_
      refine lv_ishr hx hb d_Mod_byteOf_32 ?_
      refine lv_sipush (v := 255) hx hb d_Mod_byteOf_33 (by decide) ?_
      refine lv_iand hx hb d_Mod_byteOf_36 ?_
      exact retI (out := fun u => [e_Mod a Mod_thrown Mod_width Mod_height Mod_many Mod_size Mod_bit Mod_single Mod_runs Mod_longest, e_ar a n cI 15 mc]) (u := ()) E hr hlk rfl hw h d_Mod_byteOf_37
    · have h := h.2 c2
      refine lv_iconst (v := 0) hx hb d_Mod_byteOf_8 (by decide) ?_
      exact retI (out := fun u => [e_Mod a Mod_thrown Mod_width Mod_height Mod_many Mod_size Mod_bit Mod_single Mod_runs Mod_longest, e_ar a n cI 15 mc]) (u := ()) E hr hlk rfl hw h d_Mod_byteOf_9
-- PicturePackerModel.far(II)I
theorem d_Mod_far_0 : decode prog_9_method_8_code 0 = .ok (.iload_n 0, 1) := by decide +kernel
theorem d_Mod_far_1 : decode prog_9_method_8_code 1 = .ok (.iload_n 1, 1) := by decide +kernel
theorem d_Mod_far_2 : decode prog_9_method_8_code 2 = .ok (.if_icmp .ge 9, 3) := by decide +kernel
theorem d_Mod_far_5 : decode prog_9_method_8_code 5 = .ok (.iload_n 1, 1) := by decide +kernel
theorem d_Mod_far_6 : decode prog_9_method_8_code 6 = .ok (.iload_n 0, 1) := by decide +kernel
theorem d_Mod_far_7 : decode prog_9_method_8_code 7 = .ok (.isub, 1) := by decide +kernel
theorem d_Mod_far_8 : decode prog_9_method_8_code 8 = .ok (.goto 6, 3) := by decide +kernel
theorem d_Mod_far_11 : decode prog_9_method_8_code 11 = .ok (.iload_n 0, 1) := by decide +kernel
theorem d_Mod_far_12 : decode prog_9_method_8_code 12 = .ok (.iload_n 1, 1) := by decide +kernel
theorem d_Mod_far_13 : decode prog_9_method_8_code 13 = .ok (.isub, 1) := by decide +kernel
theorem d_Mod_far_14 : decode prog_9_method_8_code 14 = .ok (.ireturn, 1) := by decide +kernel
abbrev y_Mod_far : MethodName := ⟨"PicturePackerModel", "far", "(II)I"⟩
def wp_Mod_far (n : Nat → Nat) (x0 : Int32) (x1 : Int32) (post : Int32 → Unit → Prop) : Prop := ((x1 : Int32) ≤ x0 → (post (x0 - x1) ())) ∧ (¬ ((x1 : Int32) ≤ x0) → (post (x1 - x0) ()))
set_option maxHeartbeats 2000000 in
set_option maxRecDepth 20000 in
theorem c_Mod_far {l : Launch} {dC : Nat → ClassId} {dI : Nat → Nat → Nat} {cI : ClassId} {tb : Tbs} {a n : Nat → Nat} {x0 : Int32} {x1 : Int32} {post : Int32 → Unit → Prop} (h : wp_Mod_far n x0 x1 post) : CtI classes dC dI cI tb l y_Mod_far prog_9_method_8_code 2 .int ({ frames := 0, cells := 0, slots := 0, locals := 0 }) [.int x0, .int x1] [] (Unit) (fun _ => []) post := by
  refine startI (by decide) (Nat.le_of_ble_eq_true rfl) ?_
  intro p e s m below meth c ls E hr hlk hnm hl hw
  have hl : lv_has ls 2 [(0, .int x0), (1, .int x1)] := hl
  generalize va_A [] s.heap.size = A at hw ⊢
  obtain ⟨hx, hb, hml, hown, hts⟩ := id E
  unfold wp_Mod_far at h
  refine lv_iload_n hx hb d_Mod_far_0 rfl (lv_at hl 0 rfl) ?_
  refine lv_iload_n hx hb d_Mod_far_1 rfl (lv_at hl 1 rfl) ?_
  refine lv_icmp_ge (tgt := 11) hx hb d_Mod_far_2 (by decide) (fun c1 => ?_) (fun c1 => ?_)
  · have h := h.1 c1
    refine lv_iload_n hx hb d_Mod_far_11 rfl (lv_at hl 0 rfl) ?_
    refine lv_iload_n hx hb d_Mod_far_12 rfl (lv_at hl 1 rfl) ?_
    refine lv_isub hx hb d_Mod_far_13 ?_
    exact retI (out := fun u => []) (u := ()) E hr hlk rfl hw h d_Mod_far_14
  · have h := h.2 c1
    refine lv_iload_n hx hb d_Mod_far_5 rfl (lv_at hl 1 rfl) ?_
    refine lv_iload_n hx hb d_Mod_far_6 rfl (lv_at hl 0 rfl) ?_
    refine lv_isub hx hb d_Mod_far_7 ?_
    refine lv_goto (tgt := 14) hx hb d_Mod_far_8 (by decide) ?_
    exact retI (out := fun u => []) (u := ()) E hr hlk rfl hw h d_Mod_far_14
-- PicturePackerModel.filtered(III)I
theorem d_Mod_filtered_0 : decode prog_9_method_9_code 0 = .ok (.aload_n 0, 1) := by decide +kernel
theorem d_Mod_filtered_1 : decode prog_9_method_9_code 1 = .ok (.iload_n 2, 1) := by decide +kernel
theorem d_Mod_filtered_2 : decode prog_9_method_9_code 2 = .ok (.iconst 3, 1) := by decide +kernel
theorem d_Mod_filtered_3 : decode prog_9_method_9_code 3 = .ok (.isub, 1) := by decide +kernel
theorem d_Mod_filtered_4 : decode prog_9_method_9_code 4 = .ok (.iload_n 3, 1) := by decide +kernel
theorem d_Mod_filtered_5 : decode prog_9_method_9_code 5 = .ok (.invokevirtual 34, 3) := by decide +kernel
theorem d_Mod_filtered_8 : decode prog_9_method_9_code 8 = .ok (.istore 4, 2) := by decide +kernel
theorem d_Mod_filtered_10 : decode prog_9_method_9_code 10 = .ok (.aload_n 0, 1) := by decide +kernel
theorem d_Mod_filtered_11 : decode prog_9_method_9_code 11 = .ok (.iload_n 2, 1) := by decide +kernel
theorem d_Mod_filtered_12 : decode prog_9_method_9_code 12 = .ok (.iload_n 3, 1) := by decide +kernel
theorem d_Mod_filtered_13 : decode prog_9_method_9_code 13 = .ok (.iconst 1, 1) := by decide +kernel
theorem d_Mod_filtered_14 : decode prog_9_method_9_code 14 = .ok (.isub, 1) := by decide +kernel
theorem d_Mod_filtered_15 : decode prog_9_method_9_code 15 = .ok (.invokevirtual 34, 3) := by decide +kernel
theorem d_Mod_filtered_18 : decode prog_9_method_9_code 18 = .ok (.istore 5, 2) := by decide +kernel
theorem d_Mod_filtered_20 : decode prog_9_method_9_code 20 = .ok (.iload_n 2, 1) := by decide +kernel
theorem d_Mod_filtered_21 : decode prog_9_method_9_code 21 = .ok (.iconst 3, 1) := by decide +kernel
theorem d_Mod_filtered_22 : decode prog_9_method_9_code 22 = .ok (.if_icmp .ge 7, 3) := by decide +kernel
theorem d_Mod_filtered_25 : decode prog_9_method_9_code 25 = .ok (.iconst 0, 1) := by decide +kernel
theorem d_Mod_filtered_26 : decode prog_9_method_9_code 26 = .ok (.goto 13, 3) := by decide +kernel
theorem d_Mod_filtered_29 : decode prog_9_method_9_code 29 = .ok (.aload_n 0, 1) := by decide +kernel
theorem d_Mod_filtered_30 : decode prog_9_method_9_code 30 = .ok (.iload_n 2, 1) := by decide +kernel
theorem d_Mod_filtered_31 : decode prog_9_method_9_code 31 = .ok (.iconst 3, 1) := by decide +kernel
theorem d_Mod_filtered_32 : decode prog_9_method_9_code 32 = .ok (.isub, 1) := by decide +kernel
theorem d_Mod_filtered_33 : decode prog_9_method_9_code 33 = .ok (.iload_n 3, 1) := by decide +kernel
theorem d_Mod_filtered_34 : decode prog_9_method_9_code 34 = .ok (.iconst 1, 1) := by decide +kernel
theorem d_Mod_filtered_35 : decode prog_9_method_9_code 35 = .ok (.isub, 1) := by decide +kernel
theorem d_Mod_filtered_36 : decode prog_9_method_9_code 36 = .ok (.invokevirtual 34, 3) := by decide +kernel
theorem d_Mod_filtered_39 : decode prog_9_method_9_code 39 = .ok (.istore 6, 2) := by decide +kernel
theorem d_Mod_filtered_41 : decode prog_9_method_9_code 41 = .ok (.iload 4, 2) := by decide +kernel
theorem d_Mod_filtered_43 : decode prog_9_method_9_code 43 = .ok (.iload 5, 2) := by decide +kernel
theorem d_Mod_filtered_45 : decode prog_9_method_9_code 45 = .ok (.iadd, 1) := by decide +kernel
theorem d_Mod_filtered_46 : decode prog_9_method_9_code 46 = .ok (.iload 6, 2) := by decide +kernel
theorem d_Mod_filtered_48 : decode prog_9_method_9_code 48 = .ok (.isub, 1) := by decide +kernel
theorem d_Mod_filtered_49 : decode prog_9_method_9_code 49 = .ok (.istore 7, 2) := by decide +kernel
theorem d_Mod_filtered_51 : decode prog_9_method_9_code 51 = .ok (.iload 7, 2) := by decide +kernel
theorem d_Mod_filtered_53 : decode prog_9_method_9_code 53 = .ok (.iload 4, 2) := by decide +kernel
theorem d_Mod_filtered_55 : decode prog_9_method_9_code 55 = .ok (.invokestatic 38, 3) := by decide +kernel
theorem d_Mod_filtered_58 : decode prog_9_method_9_code 58 = .ok (.iload 7, 2) := by decide +kernel
theorem d_Mod_filtered_60 : decode prog_9_method_9_code 60 = .ok (.iload 5, 2) := by decide +kernel
theorem d_Mod_filtered_62 : decode prog_9_method_9_code 62 = .ok (.invokestatic 38, 3) := by decide +kernel
theorem d_Mod_filtered_65 : decode prog_9_method_9_code 65 = .ok (.if_icmp .gt 25, 3) := by decide +kernel
theorem d_Mod_filtered_68 : decode prog_9_method_9_code 68 = .ok (.iload 7, 2) := by decide +kernel
theorem d_Mod_filtered_70 : decode prog_9_method_9_code 70 = .ok (.iload 4, 2) := by decide +kernel
theorem d_Mod_filtered_72 : decode prog_9_method_9_code 72 = .ok (.invokestatic 38, 3) := by decide +kernel
theorem d_Mod_filtered_75 : decode prog_9_method_9_code 75 = .ok (.iload 7, 2) := by decide +kernel
theorem d_Mod_filtered_77 : decode prog_9_method_9_code 77 = .ok (.iload 6, 2) := by decide +kernel
theorem d_Mod_filtered_79 : decode prog_9_method_9_code 79 = .ok (.invokestatic 38, 3) := by decide +kernel
theorem d_Mod_filtered_82 : decode prog_9_method_9_code 82 = .ok (.if_icmp .gt 8, 3) := by decide +kernel
theorem d_Mod_filtered_85 : decode prog_9_method_9_code 85 = .ok (.iload 4, 2) := by decide +kernel
theorem d_Mod_filtered_87 : decode prog_9_method_9_code 87 = .ok (.goto 27, 3) := by decide +kernel
theorem d_Mod_filtered_90 : decode prog_9_method_9_code 90 = .ok (.iload 7, 2) := by decide +kernel
theorem d_Mod_filtered_92 : decode prog_9_method_9_code 92 = .ok (.iload 5, 2) := by decide +kernel
theorem d_Mod_filtered_94 : decode prog_9_method_9_code 94 = .ok (.invokestatic 38, 3) := by decide +kernel
theorem d_Mod_filtered_97 : decode prog_9_method_9_code 97 = .ok (.iload 7, 2) := by decide +kernel
theorem d_Mod_filtered_99 : decode prog_9_method_9_code 99 = .ok (.iload 6, 2) := by decide +kernel
theorem d_Mod_filtered_101 : decode prog_9_method_9_code 101 = .ok (.invokestatic 38, 3) := by decide +kernel
theorem d_Mod_filtered_104 : decode prog_9_method_9_code 104 = .ok (.if_icmp .gt 8, 3) := by decide +kernel
theorem d_Mod_filtered_107 : decode prog_9_method_9_code 107 = .ok (.iload 5, 2) := by decide +kernel
theorem d_Mod_filtered_109 : decode prog_9_method_9_code 109 = .ok (.goto 5, 3) := by decide +kernel
theorem d_Mod_filtered_112 : decode prog_9_method_9_code 112 = .ok (.iload 6, 2) := by decide +kernel
theorem d_Mod_filtered_114 : decode prog_9_method_9_code 114 = .ok (.istore 8, 2) := by decide +kernel
theorem d_Mod_filtered_116 : decode prog_9_method_9_code 116 = .ok (.iload_n 1, 1) := by decide +kernel
theorem d_Mod_filtered_117 : decode prog_9_method_9_code 117 = .ok (.ifCond .ne 7, 3) := by decide +kernel
theorem d_Mod_filtered_120 : decode prog_9_method_9_code 120 = .ok (.iconst 0, 1) := by decide +kernel
theorem d_Mod_filtered_121 : decode prog_9_method_9_code 121 = .ok (.goto 40, 3) := by decide +kernel
theorem d_Mod_filtered_124 : decode prog_9_method_9_code 124 = .ok (.iload_n 1, 1) := by decide +kernel
theorem d_Mod_filtered_125 : decode prog_9_method_9_code 125 = .ok (.iconst 1, 1) := by decide +kernel
theorem d_Mod_filtered_126 : decode prog_9_method_9_code 126 = .ok (.if_icmp .ne 8, 3) := by decide +kernel
theorem d_Mod_filtered_129 : decode prog_9_method_9_code 129 = .ok (.iload 4, 2) := by decide +kernel
theorem d_Mod_filtered_131 : decode prog_9_method_9_code 131 = .ok (.goto 30, 3) := by decide +kernel
theorem d_Mod_filtered_134 : decode prog_9_method_9_code 134 = .ok (.iload_n 1, 1) := by decide +kernel
theorem d_Mod_filtered_135 : decode prog_9_method_9_code 135 = .ok (.iconst 2, 1) := by decide +kernel
theorem d_Mod_filtered_136 : decode prog_9_method_9_code 136 = .ok (.if_icmp .ne 8, 3) := by decide +kernel
theorem d_Mod_filtered_139 : decode prog_9_method_9_code 139 = .ok (.iload 5, 2) := by decide +kernel
theorem d_Mod_filtered_141 : decode prog_9_method_9_code 141 = .ok (.goto 20, 3) := by decide +kernel
theorem d_Mod_filtered_144 : decode prog_9_method_9_code 144 = .ok (.iload_n 1, 1) := by decide +kernel
theorem d_Mod_filtered_145 : decode prog_9_method_9_code 145 = .ok (.iconst 3, 1) := by decide +kernel
theorem d_Mod_filtered_146 : decode prog_9_method_9_code 146 = .ok (.if_icmp .ne 13, 3) := by decide +kernel
theorem d_Mod_filtered_149 : decode prog_9_method_9_code 149 = .ok (.iload 4, 2) := by decide +kernel
theorem d_Mod_filtered_151 : decode prog_9_method_9_code 151 = .ok (.iload 5, 2) := by decide +kernel
theorem d_Mod_filtered_153 : decode prog_9_method_9_code 153 = .ok (.iadd, 1) := by decide +kernel
theorem d_Mod_filtered_154 : decode prog_9_method_9_code 154 = .ok (.iconst 2, 1) := by decide +kernel
theorem d_Mod_filtered_155 : decode prog_9_method_9_code 155 = .ok (.idiv, 1) := by decide +kernel
theorem d_Mod_filtered_156 : decode prog_9_method_9_code 156 = .ok (.goto 5, 3) := by decide +kernel
theorem d_Mod_filtered_159 : decode prog_9_method_9_code 159 = .ok (.iload 8, 2) := by decide +kernel
theorem d_Mod_filtered_161 : decode prog_9_method_9_code 161 = .ok (.istore 9, 2) := by decide +kernel
theorem d_Mod_filtered_163 : decode prog_9_method_9_code 163 = .ok (.aload_n 0, 1) := by decide +kernel
theorem d_Mod_filtered_164 : decode prog_9_method_9_code 164 = .ok (.iload_n 2, 1) := by decide +kernel
theorem d_Mod_filtered_165 : decode prog_9_method_9_code 165 = .ok (.iload_n 3, 1) := by decide +kernel
theorem d_Mod_filtered_166 : decode prog_9_method_9_code 166 = .ok (.invokevirtual 34, 3) := by decide +kernel
theorem d_Mod_filtered_169 : decode prog_9_method_9_code 169 = .ok (.iload 9, 2) := by decide +kernel
theorem d_Mod_filtered_171 : decode prog_9_method_9_code 171 = .ok (.isub, 1) := by decide +kernel
theorem d_Mod_filtered_172 : decode prog_9_method_9_code 172 = .ok (.sipush 255, 3) := by decide +kernel
theorem d_Mod_filtered_175 : decode prog_9_method_9_code 175 = .ok (.iand, 1) := by decide +kernel
theorem d_Mod_filtered_176 : decode prog_9_method_9_code 176 = .ok (.ireturn, 1) := by decide +kernel
abbrev y_Mod_filtered : MethodName := ⟨"PicturePackerModel", "filtered", "(III)I"⟩
def wp_Mod_filtered_161 (n : Nat → Nat) (mc : Nat → Int32) (x1 : Int32) (x2 : Int32) (x3 : Int32) (post : Int32 → Unit → Prop) (t0 : Int32) : Prop := wp_Mod_byteOf n mc x2 x3 (fun r24 _ => post ((r24 - t0) &&& 255) ())
def wp_Mod_filtered_114 (n : Nat → Nat) (mc : Nat → Int32) (x1 : Int32) (x2 : Int32) (x3 : Int32) (post : Int32 → Unit → Prop) (t0 : Int32) (y4 : Int32) (y5 : Int32) : Prop := (¬ (x1 : Int32) = 0 → ((¬ (x1 : Int32) = 1 → ((¬ (x1 : Int32) = 2 → ((¬ (x1 : Int32) = 3 → (wp_Mod_filtered_161 n mc x1 x2 x3 post t0)) ∧ ((x1 : Int32) = 3 → (wp_Mod_filtered_161 n mc x1 x2 x3 post ((y4 + y5) / 2))))) ∧ ((x1 : Int32) = 2 → (wp_Mod_filtered_161 n mc x1 x2 x3 post y5)))) ∧ ((x1 : Int32) = 1 → (wp_Mod_filtered_161 n mc x1 x2 x3 post y4)))) ∧ ((x1 : Int32) = 0 → (wp_Mod_filtered_161 n mc x1 x2 x3 post 0))
def wp_Mod_filtered_90 (n : Nat → Nat) (mc : Nat → Int32) (x1 : Int32) (x2 : Int32) (x3 : Int32) (post : Int32 → Unit → Prop) (y4 : Int32) (y5 : Int32) (y6 : Int32) (y7 : Int32) : Prop := wp_Mod_far n y7 y5 (fun r15 _ => wp_Mod_far n y7 y6 (fun r17 _ => ((r17 : Int32) < r15 → (wp_Mod_filtered_114 n mc x1 x2 x3 post y6 y4 y5)) ∧ (¬ ((r17 : Int32) < r15) → (wp_Mod_filtered_114 n mc x1 x2 x3 post y5 y4 y5))))
def wp_Mod_filtered_39 (n : Nat → Nat) (mc : Nat → Int32) (x1 : Int32) (x2 : Int32) (x3 : Int32) (post : Int32 → Unit → Prop) (t0 : Int32) (y4 : Int32) (y5 : Int32) : Prop := ∀ z8 : Int32, z8 = ((y4 + y5) - t0) → (wp_Mod_far n z8 y4 (fun r10 _ => wp_Mod_far n z8 y5 (fun r12 _ => ((r12 : Int32) < r10 → (wp_Mod_filtered_90 n mc x1 x2 x3 post y4 y5 t0 z8)) ∧ (¬ ((r12 : Int32) < r10) → (wp_Mod_far n z8 y4 (fun r26 _ => wp_Mod_far n z8 t0 (fun r28 _ => ((r28 : Int32) < r26 → (wp_Mod_filtered_90 n mc x1 x2 x3 post y4 y5 t0 z8)) ∧ (¬ ((r28 : Int32) < r26) → (wp_Mod_filtered_114 n mc x1 x2 x3 post y4 y4 y5)))))))))
def wp_Mod_filtered (n : Nat → Nat) (mc : Nat → Int32) (x1 : Int32) (x2 : Int32) (x3 : Int32) (post : Int32 → Unit → Prop) : Prop := wp_Mod_byteOf n mc (x2 - 3) x3 (fun r2 _ => wp_Mod_byteOf n mc x2 (x3 - 1) (fun r4 _ => ((3 : Int32) ≤ x2 → (wp_Mod_byteOf n mc (x2 - 3) (x3 - 1) (fun r7 _ => wp_Mod_filtered_39 n mc x1 x2 x3 post r7 r2 r4))) ∧ (¬ ((3 : Int32) ≤ x2) → (wp_Mod_filtered_39 n mc x1 x2 x3 post 0 r2 r4))))
set_option maxHeartbeats 2000000 in
set_option maxRecDepth 20000 in
theorem s_Mod_filtered_161 {l : Launch} {dC : Nat → ClassId} {dI : Nat → Nat → Nat} {cI : ClassId} {tb : Tbs} {a n : Nat → Nat} {p : Program} {e : Env} {s : State} {m : MethodId} {args : Array Value} {below : List Frame} {meth : Method} {c : Code} {A : Nat → Prop} (E : CallFix p m c prog_9_method_9_code 10 s args TBL "PicturePackerModel") (hr : meth.sig.returnType = some .int) (hlk : meth.locks = false) {Mod_thrown : Int32} {Mod_width : Int32} {Mod_height : Int32} {Mod_many : Int32} {Mod_size : Int32} {Mod_bit : Int32} {Mod_single : Int32} {Mod_runs : Int32} {Mod_longest : Int32} {mc : Nat → Int32} {x1 : Int32} {x2 : Int32} {x3 : Int32} {post : Int32 → Unit → Prop} : ∀ (t0 : Int32) (H : Heap) (locs : List Loc) (ls : Array Slot), Wl classes dC dI cI tb A s H locs [e_Mod a Mod_thrown Mod_width Mod_height Mod_many Mod_size Mod_bit Mod_single Mod_runs Mod_longest, e_ar a n cI 15 mc] → lv_has ls 10 [(0, .ref (a 7)), (2, .int x2), (3, .int x3)] → wp_Mod_filtered_161 n mc x1 x2 x3 post t0 → W p l e ({ frames := 1, cells := 0, slots := 0, locals := 22 }) s m args below meth c H locs 0 0 (MQ below (va_Qi post (fun u => End0 classes dC dI cI A [e_Mod a Mod_thrown Mod_width Mod_height Mod_many Mod_size Mod_bit Mod_single Mod_runs Mod_longest, e_ar a n cI 15 mc]) A) args s 0 0 A) (F0 m 161 ls [.int t0]) := by
  obtain ⟨hx, hb, hml, hown, hts⟩ := id E
  intro t0 H locs ls hw hl h
  unfold wp_Mod_filtered_161 at h
  refine lv_istore (lv' := [(9, .int t0), (0, .ref (a 7)), (2, .int x2), (3, .int x3)]) hx hb d_Mod_filtered_161 hl (by decide) rfl (fun ls hl => ?_)
  refine lv_aload_n hx hb d_Mod_filtered_163 rfl (lv_at hl 1 rfl) ?_
  refine lv_iload_n hx hb d_Mod_filtered_164 rfl (lv_at hl 2 rfl) ?_
  refine lv_iload_n hx hb d_Mod_filtered_165 rfl (lv_at hl 3 rfl) ?_
  refine kVi (y := y_Mod_byteOf) (ws' := fun _ => [e_Mod a Mod_thrown Mod_width Mod_height Mod_many Mod_size Mod_bit Mod_single Mod_runs Mod_longest, e_ar a n cI 15 mc]) (wr := []) (As := [.int x2, .int x3]) (rest := []) E hw (c_Mod_byteOf (l := l) (dC := dC) (dI := dI) (cI := cI) (tb := tb) (a := a) (n := n) (Mod_thrown := Mod_thrown) (Mod_width := Mod_width) (Mod_height := Mod_height) (Mod_many := Mod_many) (Mod_size := Mod_size) (Mod_bit := Mod_bit) (Mod_single := Mod_single) (Mod_runs := Mod_runs) (Mod_longest := Mod_longest) (mc := mc) (x1 := x2) (x2 := x3) h) tw499 tw501 tw18 tw42 tw502 2 (by decide) ⟨Nat.le_of_ble_eq_true rfl, Nat.le_of_ble_eq_true rfl⟩ ⟨Nat.le_of_ble_eq_true rfl, Nat.le_of_ble_eq_true rfl⟩ ⟨rfl, rfl⟩ rfl rfl 0 rfl [0, 1] [] [0, 1] rfl rfl rfl rfl (by decide) rfl (fun _ => rfl) hl.1 rfl rfl (Nat.le_of_ble_eq_true rfl) d_Mod_filtered_166 (fun r24 u23 H locs h hw => ?_)
  refine lv_iload hx hb d_Mod_filtered_169 (lv_at hl 0 rfl) ?_
  refine lv_isub hx hb d_Mod_filtered_171 ?_
  refine lv_sipush (v := 255) hx hb d_Mod_filtered_172 (by decide) ?_
  refine lv_iand hx hb d_Mod_filtered_175 ?_
  exact retI (out := fun u => [e_Mod a Mod_thrown Mod_width Mod_height Mod_many Mod_size Mod_bit Mod_single Mod_runs Mod_longest, e_ar a n cI 15 mc]) (u := ()) E hr hlk rfl hw h d_Mod_filtered_176
set_option maxHeartbeats 2000000 in
set_option maxRecDepth 20000 in
theorem s_Mod_filtered_114 {l : Launch} {dC : Nat → ClassId} {dI : Nat → Nat → Nat} {cI : ClassId} {tb : Tbs} {a n : Nat → Nat} {p : Program} {e : Env} {s : State} {m : MethodId} {args : Array Value} {below : List Frame} {meth : Method} {c : Code} {A : Nat → Prop} (E : CallFix p m c prog_9_method_9_code 10 s args TBL "PicturePackerModel") (hr : meth.sig.returnType = some .int) (hlk : meth.locks = false) {Mod_thrown : Int32} {Mod_width : Int32} {Mod_height : Int32} {Mod_many : Int32} {Mod_size : Int32} {Mod_bit : Int32} {Mod_single : Int32} {Mod_runs : Int32} {Mod_longest : Int32} {mc : Nat → Int32} {x1 : Int32} {x2 : Int32} {x3 : Int32} {post : Int32 → Unit → Prop} : ∀ (t0 : Int32) (y4 : Int32) (y5 : Int32) (H : Heap) (locs : List Loc) (ls : Array Slot), Wl classes dC dI cI tb A s H locs [e_Mod a Mod_thrown Mod_width Mod_height Mod_many Mod_size Mod_bit Mod_single Mod_runs Mod_longest, e_ar a n cI 15 mc] → lv_has ls 10 [(0, .ref (a 7)), (1, .int x1), (2, .int x2), (3, .int x3), (4, .int y4), (5, .int y5)] → wp_Mod_filtered_114 n mc x1 x2 x3 post t0 y4 y5 → W p l e ({ frames := 1, cells := 0, slots := 0, locals := 22 }) s m args below meth c H locs 0 0 (MQ below (va_Qi post (fun u => End0 classes dC dI cI A [e_Mod a Mod_thrown Mod_width Mod_height Mod_many Mod_size Mod_bit Mod_single Mod_runs Mod_longest, e_ar a n cI 15 mc]) A) args s 0 0 A) (F0 m 114 ls [.int t0]) := by
  obtain ⟨hx, hb, hml, hown, hts⟩ := id E
  intro t0 y4 y5 H locs ls hw hl h
  unfold wp_Mod_filtered_114 at h
  refine lv_istore (lv' := [(8, .int t0), (0, .ref (a 7)), (1, .int x1), (2, .int x2), (3, .int x3), (4, .int y4), (5, .int y5)]) hx hb d_Mod_filtered_114 hl (by decide) rfl (fun ls hl => ?_)
  refine lv_iload_n hx hb d_Mod_filtered_116 rfl (lv_at hl 2 rfl) ?_
  refine lv_if_ne (tgt := 124) hx hb d_Mod_filtered_117 (by decide) (fun c19 => ?_) (fun c19 => ?_)
  · have h := h.1 c19
    refine lv_iload_n hx hb d_Mod_filtered_124 rfl (lv_at hl 2 rfl) ?_
    refine lv_iconst (v := 1) hx hb d_Mod_filtered_125 (by decide) ?_
    refine lv_icmp_ne (tgt := 134) hx hb d_Mod_filtered_126 (by decide) (fun c20 => ?_) (fun c20 => ?_)
    · have h := h.1 c20
      refine lv_iload_n hx hb d_Mod_filtered_134 rfl (lv_at hl 2 rfl) ?_
      refine lv_iconst (v := 2) hx hb d_Mod_filtered_135 (by decide) ?_
      refine lv_icmp_ne (tgt := 144) hx hb d_Mod_filtered_136 (by decide) (fun c21 => ?_) (fun c21 => ?_)
      · have h := h.1 c21
        refine lv_iload_n hx hb d_Mod_filtered_144 rfl (lv_at hl 2 rfl) ?_
        refine lv_iconst (v := 3) hx hb d_Mod_filtered_145 (by decide) ?_
        refine lv_icmp_ne (tgt := 159) hx hb d_Mod_filtered_146 (by decide) (fun c22 => ?_) (fun c22 => ?_)
        · have h := h.1 c22
          refine lv_iload hx hb d_Mod_filtered_159 (lv_at hl 0 rfl) ?_
          exact s_Mod_filtered_161 (a := a) (n := n) (tb := tb) E hr hlk  t0 _ _ ls hw (lv_sub hl [1, 3, 4] rfl) h
        · have h := h.2 c22
          refine lv_iload hx hb d_Mod_filtered_149 (lv_at hl 5 rfl) ?_
          refine lv_iload hx hb d_Mod_filtered_151 (lv_at hl 6 rfl) ?_
          refine lv_iadd hx hb d_Mod_filtered_153 ?_
          refine lv_iconst (v := 2) hx hb d_Mod_filtered_154 (by decide) ?_
          refine lv_idiv hx hb d_Mod_filtered_155 (by decide) ?_
          refine lv_goto (tgt := 161) hx hb d_Mod_filtered_156 (by decide) ?_
          exact s_Mod_filtered_161 (a := a) (n := n) (tb := tb) E hr hlk  ((y4 + y5) / 2) _ _ ls hw (lv_sub hl [1, 3, 4] rfl) h
      · have h := h.2 c21
        refine lv_iload hx hb d_Mod_filtered_139 (lv_at hl 6 rfl) ?_
        refine lv_goto (tgt := 161) hx hb d_Mod_filtered_141 (by decide) ?_
        exact s_Mod_filtered_161 (a := a) (n := n) (tb := tb) E hr hlk  y5 _ _ ls hw (lv_sub hl [1, 3, 4] rfl) h
    · have h := h.2 c20
      refine lv_iload hx hb d_Mod_filtered_129 (lv_at hl 5 rfl) ?_
      refine lv_goto (tgt := 161) hx hb d_Mod_filtered_131 (by decide) ?_
      exact s_Mod_filtered_161 (a := a) (n := n) (tb := tb) E hr hlk  y4 _ _ ls hw (lv_sub hl [1, 3, 4] rfl) h
  · have h := h.2 c19
    refine lv_iconst (v := 0) hx hb d_Mod_filtered_120 (by decide) ?_
    refine lv_goto (tgt := 161) hx hb d_Mod_filtered_121 (by decide) ?_
    exact s_Mod_filtered_161 (a := a) (n := n) (tb := tb) E hr hlk  0 _ _ ls hw (lv_sub hl [1, 3, 4] rfl) h
set_option maxHeartbeats 2000000 in
set_option maxRecDepth 20000 in
theorem s_Mod_filtered_90 {l : Launch} {dC : Nat → ClassId} {dI : Nat → Nat → Nat} {cI : ClassId} {tb : Tbs} {a n : Nat → Nat} {p : Program} {e : Env} {s : State} {m : MethodId} {args : Array Value} {below : List Frame} {meth : Method} {c : Code} {A : Nat → Prop} (E : CallFix p m c prog_9_method_9_code 10 s args TBL "PicturePackerModel") (hr : meth.sig.returnType = some .int) (hlk : meth.locks = false) {Mod_thrown : Int32} {Mod_width : Int32} {Mod_height : Int32} {Mod_many : Int32} {Mod_size : Int32} {Mod_bit : Int32} {Mod_single : Int32} {Mod_runs : Int32} {Mod_longest : Int32} {mc : Nat → Int32} {x1 : Int32} {x2 : Int32} {x3 : Int32} {post : Int32 → Unit → Prop} : ∀ (y4 : Int32) (y5 : Int32) (y6 : Int32) (y7 : Int32) (H : Heap) (locs : List Loc) (ls : Array Slot), Wl classes dC dI cI tb A s H locs [e_Mod a Mod_thrown Mod_width Mod_height Mod_many Mod_size Mod_bit Mod_single Mod_runs Mod_longest, e_ar a n cI 15 mc] → lv_has ls 10 [(0, .ref (a 7)), (1, .int x1), (2, .int x2), (3, .int x3), (4, .int y4), (5, .int y5), (6, .int y6), (7, .int y7)] → wp_Mod_filtered_90 n mc x1 x2 x3 post y4 y5 y6 y7 → W p l e ({ frames := 1, cells := 0, slots := 0, locals := 22 }) s m args below meth c H locs 0 0 (MQ below (va_Qi post (fun u => End0 classes dC dI cI A [e_Mod a Mod_thrown Mod_width Mod_height Mod_many Mod_size Mod_bit Mod_single Mod_runs Mod_longest, e_ar a n cI 15 mc]) A) args s 0 0 A) (F0 m 90 ls []) := by
  obtain ⟨hx, hb, hml, hown, hts⟩ := id E
  intro y4 y5 y6 y7 H locs ls hw hl h
  unfold wp_Mod_filtered_90 at h
  refine lv_iload hx hb d_Mod_filtered_90 (lv_at hl 7 rfl) ?_
  refine lv_iload hx hb d_Mod_filtered_92 (lv_at hl 5 rfl) ?_
  refine kSi (y := y_Mod_far) (ws' := fun _ => [e_Mod a Mod_thrown Mod_width Mod_height Mod_many Mod_size Mod_bit Mod_single Mod_runs Mod_longest, e_ar a n cI 15 mc]) (wr := [e_Mod a Mod_thrown Mod_width Mod_height Mod_many Mod_size Mod_bit Mod_single Mod_runs Mod_longest, e_ar a n cI 15 mc]) (As := [.int y7, .int y5]) (rest := []) E hw (c_Mod_far (l := l) (dC := dC) (dI := dI) (cI := cI) (tb := tb) (a := a) (n := n)  (x0 := y7) (x1 := y5) h) tw503 tw504 tw42 tw505 2 (by decide) ⟨Nat.le_of_ble_eq_true rfl, Nat.le_of_ble_eq_true rfl⟩ ⟨Nat.le_of_ble_eq_true rfl, Nat.le_of_ble_eq_true rfl⟩ ⟨rfl, rfl⟩ [] [0, 1] [0, 1] rfl rfl rfl rfl (by decide) rfl (fun _ => rfl) hl.1 rfl rfl (Nat.le_of_ble_eq_true rfl) d_Mod_filtered_94 (fun r15 u14 H locs h hw => ?_)
  refine lv_iload hx hb d_Mod_filtered_97 (lv_at hl 7 rfl) ?_
  refine lv_iload hx hb d_Mod_filtered_99 (lv_at hl 6 rfl) ?_
  refine kSi (y := y_Mod_far) (ws' := fun _ => [e_Mod a Mod_thrown Mod_width Mod_height Mod_many Mod_size Mod_bit Mod_single Mod_runs Mod_longest, e_ar a n cI 15 mc]) (wr := [e_Mod a Mod_thrown Mod_width Mod_height Mod_many Mod_size Mod_bit Mod_single Mod_runs Mod_longest, e_ar a n cI 15 mc]) (As := [.int y7, .int y6]) (rest := [.int r15]) E hw (c_Mod_far (l := l) (dC := dC) (dI := dI) (cI := cI) (tb := tb) (a := a) (n := n)  (x0 := y7) (x1 := y6) h) tw503 tw504 tw42 tw505 2 (by decide) ⟨Nat.le_of_ble_eq_true rfl, Nat.le_of_ble_eq_true rfl⟩ ⟨Nat.le_of_ble_eq_true rfl, Nat.le_of_ble_eq_true rfl⟩ ⟨rfl, rfl⟩ [] [0, 1] [0, 1] rfl rfl rfl rfl (by decide) rfl (fun _ => rfl) hl.1 rfl rfl (Nat.le_of_ble_eq_true rfl) d_Mod_filtered_101 (fun r17 u16 H locs h hw => ?_)
  refine lv_icmp_gt (tgt := 112) hx hb d_Mod_filtered_104 (by decide) (fun c18 => ?_) (fun c18 => ?_)
  · have h := h.1 c18
    refine lv_iload hx hb d_Mod_filtered_112 (lv_at hl 6 rfl) ?_
    exact s_Mod_filtered_114 (a := a) (n := n) (tb := tb) E hr hlk  y6 y4 y5 _ _ ls hw (lv_sub hl [0, 1, 2, 3, 4, 5] rfl) h
  · have h := h.2 c18
    refine lv_iload hx hb d_Mod_filtered_107 (lv_at hl 5 rfl) ?_
    refine lv_goto (tgt := 114) hx hb d_Mod_filtered_109 (by decide) ?_
    exact s_Mod_filtered_114 (a := a) (n := n) (tb := tb) E hr hlk  y5 y4 y5 _ _ ls hw (lv_sub hl [0, 1, 2, 3, 4, 5] rfl) h
set_option maxHeartbeats 2000000 in
set_option maxRecDepth 20000 in
theorem s_Mod_filtered_39 {l : Launch} {dC : Nat → ClassId} {dI : Nat → Nat → Nat} {cI : ClassId} {tb : Tbs} {a n : Nat → Nat} {p : Program} {e : Env} {s : State} {m : MethodId} {args : Array Value} {below : List Frame} {meth : Method} {c : Code} {A : Nat → Prop} (E : CallFix p m c prog_9_method_9_code 10 s args TBL "PicturePackerModel") (hr : meth.sig.returnType = some .int) (hlk : meth.locks = false) {Mod_thrown : Int32} {Mod_width : Int32} {Mod_height : Int32} {Mod_many : Int32} {Mod_size : Int32} {Mod_bit : Int32} {Mod_single : Int32} {Mod_runs : Int32} {Mod_longest : Int32} {mc : Nat → Int32} {x1 : Int32} {x2 : Int32} {x3 : Int32} {post : Int32 → Unit → Prop} : ∀ (t0 : Int32) (y4 : Int32) (y5 : Int32) (H : Heap) (locs : List Loc) (ls : Array Slot), Wl classes dC dI cI tb A s H locs [e_Mod a Mod_thrown Mod_width Mod_height Mod_many Mod_size Mod_bit Mod_single Mod_runs Mod_longest, e_ar a n cI 15 mc] → lv_has ls 10 [(0, .ref (a 7)), (1, .int x1), (2, .int x2), (3, .int x3), (4, .int y4), (5, .int y5)] → wp_Mod_filtered_39 n mc x1 x2 x3 post t0 y4 y5 → W p l e ({ frames := 1, cells := 0, slots := 0, locals := 22 }) s m args below meth c H locs 0 0 (MQ below (va_Qi post (fun u => End0 classes dC dI cI A [e_Mod a Mod_thrown Mod_width Mod_height Mod_many Mod_size Mod_bit Mod_single Mod_runs Mod_longest, e_ar a n cI 15 mc]) A) args s 0 0 A) (F0 m 39 ls [.int t0]) := by
  obtain ⟨hx, hb, hml, hown, hts⟩ := id E
  intro t0 y4 y5 H locs ls hw hl h
  unfold wp_Mod_filtered_39 at h
  refine lv_istore (lv' := [(6, .int t0), (0, .ref (a 7)), (1, .int x1), (2, .int x2), (3, .int x3), (4, .int y4), (5, .int y5)]) hx hb d_Mod_filtered_39 hl (by decide) rfl (fun ls hl => ?_)
  refine lv_iload hx hb d_Mod_filtered_41 (lv_at hl 5 rfl) ?_
  refine lv_iload hx hb d_Mod_filtered_43 (lv_at hl 6 rfl) ?_
  refine lv_iadd hx hb d_Mod_filtered_45 ?_
  refine lv_iload hx hb d_Mod_filtered_46 (lv_at hl 0 rfl) ?_
  refine lv_isub hx hb d_Mod_filtered_48 ?_
  refine lv_topi (fun z8 ez8 => ?_)
  have h := h z8 ez8
  refine lv_istore (lv' := [(7, .int z8), (6, .int t0), (0, .ref (a 7)), (1, .int x1), (2, .int x2), (3, .int x3), (4, .int y4), (5, .int y5)]) hx hb d_Mod_filtered_49 hl (by decide) rfl (fun ls hl => ?_)
  refine lv_iload hx hb d_Mod_filtered_51 (lv_at hl 0 rfl) ?_
  refine lv_iload hx hb d_Mod_filtered_53 (lv_at hl 6 rfl) ?_
  refine kSi (y := y_Mod_far) (ws' := fun _ => [e_Mod a Mod_thrown Mod_width Mod_height Mod_many Mod_size Mod_bit Mod_single Mod_runs Mod_longest, e_ar a n cI 15 mc]) (wr := [e_Mod a Mod_thrown Mod_width Mod_height Mod_many Mod_size Mod_bit Mod_single Mod_runs Mod_longest, e_ar a n cI 15 mc]) (As := [.int z8, .int y4]) (rest := []) E hw (c_Mod_far (l := l) (dC := dC) (dI := dI) (cI := cI) (tb := tb) (a := a) (n := n)  (x0 := z8) (x1 := y4) h) tw503 tw504 tw42 tw505 2 (by decide) ⟨Nat.le_of_ble_eq_true rfl, Nat.le_of_ble_eq_true rfl⟩ ⟨Nat.le_of_ble_eq_true rfl, Nat.le_of_ble_eq_true rfl⟩ ⟨rfl, rfl⟩ [] [0, 1] [0, 1] rfl rfl rfl rfl (by decide) rfl (fun _ => rfl) hl.1 rfl rfl (Nat.le_of_ble_eq_true rfl) d_Mod_filtered_55 (fun r10 u9 H locs h hw => ?_)
  refine lv_iload hx hb d_Mod_filtered_58 (lv_at hl 0 rfl) ?_
  refine lv_iload hx hb d_Mod_filtered_60 (lv_at hl 7 rfl) ?_
  refine kSi (y := y_Mod_far) (ws' := fun _ => [e_Mod a Mod_thrown Mod_width Mod_height Mod_many Mod_size Mod_bit Mod_single Mod_runs Mod_longest, e_ar a n cI 15 mc]) (wr := [e_Mod a Mod_thrown Mod_width Mod_height Mod_many Mod_size Mod_bit Mod_single Mod_runs Mod_longest, e_ar a n cI 15 mc]) (As := [.int z8, .int y5]) (rest := [.int r10]) E hw (c_Mod_far (l := l) (dC := dC) (dI := dI) (cI := cI) (tb := tb) (a := a) (n := n)  (x0 := z8) (x1 := y5) h) tw503 tw504 tw42 tw505 2 (by decide) ⟨Nat.le_of_ble_eq_true rfl, Nat.le_of_ble_eq_true rfl⟩ ⟨Nat.le_of_ble_eq_true rfl, Nat.le_of_ble_eq_true rfl⟩ ⟨rfl, rfl⟩ [] [0, 1] [0, 1] rfl rfl rfl rfl (by decide) rfl (fun _ => rfl) hl.1 rfl rfl (Nat.le_of_ble_eq_true rfl) d_Mod_filtered_62 (fun r12 u11 H locs h hw => ?_)
  refine lv_icmp_gt (tgt := 90) hx hb d_Mod_filtered_65 (by decide) (fun c13 => ?_) (fun c13 => ?_)
  · have h := h.1 c13
    exact s_Mod_filtered_90 (a := a) (n := n) (tb := tb) E hr hlk  y4 y5 t0 z8 _ _ ls hw (lv_sub hl [2, 3, 4, 5, 6, 7, 1, 0] rfl) h
  · have h := h.2 c13
    refine lv_iload hx hb d_Mod_filtered_68 (lv_at hl 0 rfl) ?_
    refine lv_iload hx hb d_Mod_filtered_70 (lv_at hl 6 rfl) ?_
    refine kSi (y := y_Mod_far) (ws' := fun _ => [e_Mod a Mod_thrown Mod_width Mod_height Mod_many Mod_size Mod_bit Mod_single Mod_runs Mod_longest, e_ar a n cI 15 mc]) (wr := [e_Mod a Mod_thrown Mod_width Mod_height Mod_many Mod_size Mod_bit Mod_single Mod_runs Mod_longest, e_ar a n cI 15 mc]) (As := [.int z8, .int y4]) (rest := []) E hw (c_Mod_far (l := l) (dC := dC) (dI := dI) (cI := cI) (tb := tb) (a := a) (n := n)  (x0 := z8) (x1 := y4) h) tw503 tw504 tw42 tw505 2 (by decide) ⟨Nat.le_of_ble_eq_true rfl, Nat.le_of_ble_eq_true rfl⟩ ⟨Nat.le_of_ble_eq_true rfl, Nat.le_of_ble_eq_true rfl⟩ ⟨rfl, rfl⟩ [] [0, 1] [0, 1] rfl rfl rfl rfl (by decide) rfl (fun _ => rfl) hl.1 rfl rfl (Nat.le_of_ble_eq_true rfl) d_Mod_filtered_72 (fun r26 u25 H locs h hw => ?_)
    refine lv_iload hx hb d_Mod_filtered_75 (lv_at hl 0 rfl) ?_
    refine lv_iload hx hb d_Mod_filtered_77 (lv_at hl 1 rfl) ?_
    refine kSi (y := y_Mod_far) (ws' := fun _ => [e_Mod a Mod_thrown Mod_width Mod_height Mod_many Mod_size Mod_bit Mod_single Mod_runs Mod_longest, e_ar a n cI 15 mc]) (wr := [e_Mod a Mod_thrown Mod_width Mod_height Mod_many Mod_size Mod_bit Mod_single Mod_runs Mod_longest, e_ar a n cI 15 mc]) (As := [.int z8, .int t0]) (rest := [.int r26]) E hw (c_Mod_far (l := l) (dC := dC) (dI := dI) (cI := cI) (tb := tb) (a := a) (n := n)  (x0 := z8) (x1 := t0) h) tw503 tw504 tw42 tw505 2 (by decide) ⟨Nat.le_of_ble_eq_true rfl, Nat.le_of_ble_eq_true rfl⟩ ⟨Nat.le_of_ble_eq_true rfl, Nat.le_of_ble_eq_true rfl⟩ ⟨rfl, rfl⟩ [] [0, 1] [0, 1] rfl rfl rfl rfl (by decide) rfl (fun _ => rfl) hl.1 rfl rfl (Nat.le_of_ble_eq_true rfl) d_Mod_filtered_79 (fun r28 u27 H locs h hw => ?_)
    refine lv_icmp_gt (tgt := 90) hx hb d_Mod_filtered_82 (by decide) (fun c29 => ?_) (fun c29 => ?_)
    · have h := h.1 c29
      exact s_Mod_filtered_90 (a := a) (n := n) (tb := tb) E hr hlk  y4 y5 t0 z8 _ _ ls hw (lv_sub hl [2, 3, 4, 5, 6, 7, 1, 0] rfl) h
    · have h := h.2 c29
      refine lv_iload hx hb d_Mod_filtered_85 (lv_at hl 6 rfl) ?_
      refine lv_goto (tgt := 114) hx hb d_Mod_filtered_87 (by decide) ?_
      exact s_Mod_filtered_114 (a := a) (n := n) (tb := tb) E hr hlk  y4 y4 y5 _ _ ls hw (lv_sub hl [2, 3, 4, 5, 6, 7] rfl) h
set_option maxHeartbeats 2000000 in
set_option maxRecDepth 20000 in
theorem c_Mod_filtered {l : Launch} {dC : Nat → ClassId} {dI : Nat → Nat → Nat} {cI : ClassId} {tb : Tbs} {a n : Nat → Nat} {Mod_thrown : Int32} {Mod_width : Int32} {Mod_height : Int32} {Mod_many : Int32} {Mod_size : Int32} {Mod_bit : Int32} {Mod_single : Int32} {Mod_runs : Int32} {Mod_longest : Int32} {mc : Nat → Int32} {x1 : Int32} {x2 : Int32} {x3 : Int32} {post : Int32 → Unit → Prop} (h : wp_Mod_filtered n mc x1 x2 x3 post) : CtI classes dC dI cI tb l y_Mod_filtered prog_9_method_9_code 10 .int ({ frames := 1, cells := 0, slots := 0, locals := 22 }) [.ref (a 7), .int x1, .int x2, .int x3] [e_Mod a Mod_thrown Mod_width Mod_height Mod_many Mod_size Mod_bit Mod_single Mod_runs Mod_longest, e_ar a n cI 15 mc] (Unit) (fun _ => [e_Mod a Mod_thrown Mod_width Mod_height Mod_many Mod_size Mod_bit Mod_single Mod_runs Mod_longest, e_ar a n cI 15 mc]) post := by
  refine startI (by decide) (Nat.le_of_ble_eq_true rfl) ?_
  intro p e s m below meth c ls E hr hlk hnm hl hw
  have hl : lv_has ls 10 [(0, .ref (a 7)), (1, .int x1), (2, .int x2), (3, .int x3)] := hl
  generalize va_A [e_Mod a Mod_thrown Mod_width Mod_height Mod_many Mod_size Mod_bit Mod_single Mod_runs Mod_longest, e_ar a n cI 15 mc] s.heap.size = A at hw ⊢
  obtain ⟨hx, hb, hml, hown, hts⟩ := id E
  unfold wp_Mod_filtered at h
  refine lv_aload_n hx hb d_Mod_filtered_0 rfl (lv_at hl 0 rfl) ?_
  refine lv_iload_n hx hb d_Mod_filtered_1 rfl (lv_at hl 2 rfl) ?_
  refine lv_iconst (v := 3) hx hb d_Mod_filtered_2 (by decide) ?_
  refine lv_isub hx hb d_Mod_filtered_3 ?_
  refine lv_iload_n hx hb d_Mod_filtered_4 rfl (lv_at hl 3 rfl) ?_
  refine kVi (y := y_Mod_byteOf) (ws' := fun _ => [e_Mod a Mod_thrown Mod_width Mod_height Mod_many Mod_size Mod_bit Mod_single Mod_runs Mod_longest, e_ar a n cI 15 mc]) (wr := []) (As := [.int (x2 - 3), .int x3]) (rest := []) E hw (c_Mod_byteOf (l := l) (dC := dC) (dI := dI) (cI := cI) (tb := tb) (a := a) (n := n) (Mod_thrown := Mod_thrown) (Mod_width := Mod_width) (Mod_height := Mod_height) (Mod_many := Mod_many) (Mod_size := Mod_size) (Mod_bit := Mod_bit) (Mod_single := Mod_single) (Mod_runs := Mod_runs) (Mod_longest := Mod_longest) (mc := mc) (x1 := x2 - 3) (x2 := x3) h) tw499 tw501 tw18 tw42 tw502 2 (by decide) ⟨Nat.le_of_ble_eq_true rfl, Nat.le_of_ble_eq_true rfl⟩ ⟨Nat.le_of_ble_eq_true rfl, Nat.le_of_ble_eq_true rfl⟩ ⟨rfl, rfl⟩ rfl rfl 0 rfl [0, 1] [] [0, 1] rfl rfl rfl rfl (by decide) rfl (fun _ => rfl) hl.1 rfl rfl (Nat.le_of_ble_eq_true rfl) d_Mod_filtered_5 (fun r2 u1 H locs h hw => ?_)
  refine lv_istore (lv' := [(4, .int r2), (0, .ref (a 7)), (1, .int x1), (2, .int x2), (3, .int x3)]) hx hb d_Mod_filtered_8 hl (by decide) rfl (fun ls hl => ?_)
  refine lv_aload_n hx hb d_Mod_filtered_10 rfl (lv_at hl 1 rfl) ?_
  refine lv_iload_n hx hb d_Mod_filtered_11 rfl (lv_at hl 3 rfl) ?_
  refine lv_iload_n hx hb d_Mod_filtered_12 rfl (lv_at hl 4 rfl) ?_
  refine lv_iconst (v := 1) hx hb d_Mod_filtered_13 (by decide) ?_
  refine lv_isub hx hb d_Mod_filtered_14 ?_
  refine kVi (y := y_Mod_byteOf) (ws' := fun _ => [e_Mod a Mod_thrown Mod_width Mod_height Mod_many Mod_size Mod_bit Mod_single Mod_runs Mod_longest, e_ar a n cI 15 mc]) (wr := []) (As := [.int x2, .int (x3 - 1)]) (rest := []) E hw (c_Mod_byteOf (l := l) (dC := dC) (dI := dI) (cI := cI) (tb := tb) (a := a) (n := n) (Mod_thrown := Mod_thrown) (Mod_width := Mod_width) (Mod_height := Mod_height) (Mod_many := Mod_many) (Mod_size := Mod_size) (Mod_bit := Mod_bit) (Mod_single := Mod_single) (Mod_runs := Mod_runs) (Mod_longest := Mod_longest) (mc := mc) (x1 := x2) (x2 := x3 - 1) h) tw499 tw501 tw18 tw42 tw502 2 (by decide) ⟨Nat.le_of_ble_eq_true rfl, Nat.le_of_ble_eq_true rfl⟩ ⟨Nat.le_of_ble_eq_true rfl, Nat.le_of_ble_eq_true rfl⟩ ⟨rfl, rfl⟩ rfl rfl 0 rfl [0, 1] [] [0, 1] rfl rfl rfl rfl (by decide) rfl (fun _ => rfl) hl.1 rfl rfl (Nat.le_of_ble_eq_true rfl) d_Mod_filtered_15 (fun r4 u3 H locs h hw => ?_)
  refine lv_istore (lv' := [(5, .int r4), (4, .int r2), (0, .ref (a 7)), (1, .int x1), (2, .int x2), (3, .int x3)]) hx hb d_Mod_filtered_18 hl (by decide) rfl (fun ls hl => ?_)
  refine lv_iload_n hx hb d_Mod_filtered_20 rfl (lv_at hl 4 rfl) ?_
  refine lv_iconst (v := 3) hx hb d_Mod_filtered_21 (by decide) ?_
  refine lv_icmp_ge (tgt := 29) hx hb d_Mod_filtered_22 (by decide) (fun c5 => ?_) (fun c5 => ?_)
  · have h := h.1 c5
    refine lv_aload_n hx hb d_Mod_filtered_29 rfl (lv_at hl 2 rfl) ?_
    refine lv_iload_n hx hb d_Mod_filtered_30 rfl (lv_at hl 4 rfl) ?_
    refine lv_iconst (v := 3) hx hb d_Mod_filtered_31 (by decide) ?_
    refine lv_isub hx hb d_Mod_filtered_32 ?_
    refine lv_iload_n hx hb d_Mod_filtered_33 rfl (lv_at hl 5 rfl) ?_
    refine lv_iconst (v := 1) hx hb d_Mod_filtered_34 (by decide) ?_
    refine lv_isub hx hb d_Mod_filtered_35 ?_
    refine kVi (y := y_Mod_byteOf) (ws' := fun _ => [e_Mod a Mod_thrown Mod_width Mod_height Mod_many Mod_size Mod_bit Mod_single Mod_runs Mod_longest, e_ar a n cI 15 mc]) (wr := []) (As := [.int (x2 - 3), .int (x3 - 1)]) (rest := []) E hw (c_Mod_byteOf (l := l) (dC := dC) (dI := dI) (cI := cI) (tb := tb) (a := a) (n := n) (Mod_thrown := Mod_thrown) (Mod_width := Mod_width) (Mod_height := Mod_height) (Mod_many := Mod_many) (Mod_size := Mod_size) (Mod_bit := Mod_bit) (Mod_single := Mod_single) (Mod_runs := Mod_runs) (Mod_longest := Mod_longest) (mc := mc) (x1 := x2 - 3) (x2 := x3 - 1) h) tw499 tw501 tw18 tw42 tw502 2 (by decide) ⟨Nat.le_of_ble_eq_true rfl, Nat.le_of_ble_eq_true rfl⟩ ⟨Nat.le_of_ble_eq_true rfl, Nat.le_of_ble_eq_true rfl⟩ ⟨rfl, rfl⟩ rfl rfl 0 rfl [0, 1] [] [0, 1] rfl rfl rfl rfl (by decide) rfl (fun _ => rfl) hl.1 rfl rfl (Nat.le_of_ble_eq_true rfl) d_Mod_filtered_36 (fun r7 u6 H locs h hw => ?_)
    exact s_Mod_filtered_39 (a := a) (n := n) (tb := tb) E hr hlk  r7 r2 r4 _ _ ls hw (lv_sub hl [2, 3, 4, 5, 1, 0] rfl) h
  · have h := h.2 c5
    refine lv_iconst (v := 0) hx hb d_Mod_filtered_25 (by decide) ?_
    refine lv_goto (tgt := 39) hx hb d_Mod_filtered_26 (by decide) ?_
    exact s_Mod_filtered_39 (a := a) (n := n) (tb := tb) E hr hlk  0 r2 r4 _ _ ls hw (lv_sub hl [2, 3, 4, 5, 1, 0] rfl) h
-- PicturePackerModel.sumOf(II)I
theorem d_Mod_sumOf_0 : decode prog_9_method_10_code 0 = .ok (.iconst 0, 1) := by decide +kernel
theorem d_Mod_sumOf_1 : decode prog_9_method_10_code 1 = .ok (.istore_n 3, 1) := by decide +kernel
theorem d_Mod_sumOf_2 : decode prog_9_method_10_code 2 = .ok (.iconst 0, 1) := by decide +kernel
theorem d_Mod_sumOf_3 : decode prog_9_method_10_code 3 = .ok (.istore 4, 2) := by decide +kernel
theorem d_Mod_sumOf_5 : decode prog_9_method_10_code 5 = .ok (.iload 4, 2) := by decide +kernel
theorem d_Mod_sumOf_7 : decode prog_9_method_10_code 7 = .ok (.iconst 3, 1) := by decide +kernel
theorem d_Mod_sumOf_8 : decode prog_9_method_10_code 8 = .ok (.aload_n 0, 1) := by decide +kernel
theorem d_Mod_sumOf_9 : decode prog_9_method_10_code 9 = .ok (.getfield 19, 3) := by decide +kernel
theorem d_Mod_sumOf_12 : decode prog_9_method_10_code 12 = .ok (.imul, 1) := by decide +kernel
theorem d_Mod_sumOf_13 : decode prog_9_method_10_code 13 = .ok (.if_icmp .ge 44, 3) := by decide +kernel
theorem d_Mod_sumOf_16 : decode prog_9_method_10_code 16 = .ok (.aload_n 0, 1) := by decide +kernel
theorem d_Mod_sumOf_17 : decode prog_9_method_10_code 17 = .ok (.iload_n 1, 1) := by decide +kernel
theorem d_Mod_sumOf_18 : decode prog_9_method_10_code 18 = .ok (.iload 4, 2) := by decide +kernel
theorem d_Mod_sumOf_20 : decode prog_9_method_10_code 20 = .ok (.iload_n 2, 1) := by decide +kernel
theorem d_Mod_sumOf_21 : decode prog_9_method_10_code 21 = .ok (.invokevirtual 41, 3) := by decide +kernel
theorem d_Mod_sumOf_24 : decode prog_9_method_10_code 24 = .ok (.istore 5, 2) := by decide +kernel
theorem d_Mod_sumOf_26 : decode prog_9_method_10_code 26 = .ok (.iload_n 3, 1) := by decide +kernel
theorem d_Mod_sumOf_27 : decode prog_9_method_10_code 27 = .ok (.iload 5, 2) := by decide +kernel
theorem d_Mod_sumOf_29 : decode prog_9_method_10_code 29 = .ok (.sipush 256, 3) := by decide +kernel
theorem d_Mod_sumOf_32 : decode prog_9_method_10_code 32 = .ok (.iload 5, 2) := by decide +kernel
theorem d_Mod_sumOf_34 : decode prog_9_method_10_code 34 = .ok (.isub, 1) := by decide +kernel
theorem d_Mod_sumOf_35 : decode prog_9_method_10_code 35 = .ok (.if_icmp .ge 8, 3) := by decide +kernel
theorem d_Mod_sumOf_38 : decode prog_9_method_10_code 38 = .ok (.iload 5, 2) := by decide +kernel
theorem d_Mod_sumOf_40 : decode prog_9_method_10_code 40 = .ok (.goto 9, 3) := by decide +kernel
theorem d_Mod_sumOf_43 : decode prog_9_method_10_code 43 = .ok (.sipush 256, 3) := by decide +kernel
theorem d_Mod_sumOf_46 : decode prog_9_method_10_code 46 = .ok (.iload 5, 2) := by decide +kernel
theorem d_Mod_sumOf_48 : decode prog_9_method_10_code 48 = .ok (.isub, 1) := by decide +kernel
theorem d_Mod_sumOf_49 : decode prog_9_method_10_code 49 = .ok (.iadd, 1) := by decide +kernel
theorem d_Mod_sumOf_50 : decode prog_9_method_10_code 50 = .ok (.istore_n 3, 1) := by decide +kernel
theorem d_Mod_sumOf_51 : decode prog_9_method_10_code 51 = .ok (.iinc 4 1, 3) := by decide +kernel
theorem d_Mod_sumOf_54 : decode prog_9_method_10_code 54 = .ok (.goto (-49), 3) := by decide +kernel
theorem d_Mod_sumOf_57 : decode prog_9_method_10_code 57 = .ok (.iload_n 3, 1) := by decide +kernel
theorem d_Mod_sumOf_58 : decode prog_9_method_10_code 58 = .ok (.ireturn, 1) := by decide +kernel
abbrev y_Mod_sumOf : MethodName := ⟨"PicturePackerModel", "sumOf", "(II)I"⟩
def wp_Mod_sumOf_5 (n : Nat → Nat) (Mod_width : Int32) (mc : Nat → Int32) (x1 : Int32) (x2 : Int32) (post : Int32 → Unit → Prop) : Nat → Int32 → Int32 → Prop
  | 0 => fun _ _ => False
  | N + 1 => fun y3 y4 => ((3 * Mod_width : Int32) ≤ y4 → (post y3 ())) ∧ (¬ ((3 * Mod_width : Int32) ≤ y4) → (wp_Mod_filtered n mc x1 y4 x2 (fun r3 _ => ((256 - r3 : Int32) ≤ r3 → (∀ z5 : Int32, z5 = (y3 + (256 - r3)) → (∀ z6 : Int32, z6 = (y4 + 1) → (wp_Mod_sumOf_5 n Mod_width mc x1 x2 post N z5 z6)))) ∧ (¬ ((256 - r3 : Int32) ≤ r3) → (∀ z7 : Int32, z7 = (y3 + r3) → (∀ z8 : Int32, z8 = (y4 + 1) → (wp_Mod_sumOf_5 n Mod_width mc x1 x2 post N z7 z8)))))))
def wp_Mod_sumOf (n : Nat → Nat) (Mod_width : Int32) (mc : Nat → Int32) (x1 : Int32) (x2 : Int32) (post : Int32 → Unit → Prop) : Prop := ∃ N9 : Nat, wp_Mod_sumOf_5 n Mod_width mc x1 x2 post N9 0 0
set_option maxHeartbeats 2000000 in
set_option maxRecDepth 20000 in
theorem s_Mod_sumOf_5 {l : Launch} {dC : Nat → ClassId} {dI : Nat → Nat → Nat} {cI : ClassId} {tb : Tbs} {a n : Nat → Nat} {p : Program} {e : Env} {s : State} {m : MethodId} {args : Array Value} {below : List Frame} {meth : Method} {c : Code} {A : Nat → Prop} (E : CallFix p m c prog_9_method_10_code 6 s args TBL "PicturePackerModel") (hr : meth.sig.returnType = some .int) (hlk : meth.locks = false) {Mod_thrown : Int32} {Mod_width : Int32} {Mod_height : Int32} {Mod_many : Int32} {Mod_size : Int32} {Mod_bit : Int32} {Mod_single : Int32} {Mod_runs : Int32} {Mod_longest : Int32} {mc : Nat → Int32} {x1 : Int32} {x2 : Int32} {post : Int32 → Unit → Prop} : ∀ (N : Nat) (y3 : Int32) (y4 : Int32) (H : Heap) (locs : List Loc) (ls : Array Slot), Wl classes dC dI cI tb A s H locs [e_Mod a Mod_thrown Mod_width Mod_height Mod_many Mod_size Mod_bit Mod_single Mod_runs Mod_longest, e_ar a n cI 15 mc] → lv_has ls 6 [(0, .ref (a 7)), (1, .int x1), (2, .int x2), (3, .int y3), (4, .int y4)] → wp_Mod_sumOf_5 n Mod_width mc x1 x2 post N y3 y4 → W p l e ({ frames := 2, cells := 0, slots := 0, locals := 51 }) s m args below meth c H locs 0 0 (MQ below (va_Qi post (fun u => End0 classes dC dI cI A [e_Mod a Mod_thrown Mod_width Mod_height Mod_many Mod_size Mod_bit Mod_single Mod_runs Mod_longest, e_ar a n cI 15 mc]) A) args s 0 0 A) (F0 m 5 ls []) := by
  obtain ⟨hx, hb, hml, hown, hts⟩ := id E
  intro N
  induction N with
  | zero =>
    intro _ _ H locs ls hw hl h
    exact absurd h id
  | succ N ih =>
    intro y3 y4 H locs ls hw hl h
    unfold wp_Mod_sumOf_5 at h
    refine lv_iload hx hb d_Mod_sumOf_5 (lv_at hl 4 rfl) ?_
    refine lv_iconst (v := 3) hx hb d_Mod_sumOf_7 (by decide) ?_
    refine lv_aload_n hx hb d_Mod_sumOf_8 rfl (lv_at hl 0 rfl) ?_
    refine kget (v := .int Mod_width) (T := F_Mod) E hw in_Mod rfl 0 1 rfl (by decide) tw430 rfl d_Mod_sumOf_9 ?_
    refine lv_imul hx hb d_Mod_sumOf_12 ?_
    refine lv_icmp_ge (tgt := 57) hx hb d_Mod_sumOf_13 (by decide) (fun c1 => ?_) (fun c1 => ?_)
    · have h := h.1 c1
      refine lv_iload_n hx hb d_Mod_sumOf_57 rfl (lv_at hl 3 rfl) ?_
      exact retI (out := fun u => [e_Mod a Mod_thrown Mod_width Mod_height Mod_many Mod_size Mod_bit Mod_single Mod_runs Mod_longest, e_ar a n cI 15 mc]) (u := ()) E hr hlk rfl hw h d_Mod_sumOf_58
    · have h := h.2 c1
      refine lv_aload_n hx hb d_Mod_sumOf_16 rfl (lv_at hl 0 rfl) ?_
      refine lv_iload_n hx hb d_Mod_sumOf_17 rfl (lv_at hl 1 rfl) ?_
      refine lv_iload hx hb d_Mod_sumOf_18 (lv_at hl 4 rfl) ?_
      refine lv_iload_n hx hb d_Mod_sumOf_20 rfl (lv_at hl 2 rfl) ?_
      refine kVi (y := y_Mod_filtered) (ws' := fun _ => [e_Mod a Mod_thrown Mod_width Mod_height Mod_many Mod_size Mod_bit Mod_single Mod_runs Mod_longest, e_ar a n cI 15 mc]) (wr := []) (As := [.int x1, .int y4, .int x2]) (rest := []) E hw (c_Mod_filtered (l := l) (dC := dC) (dI := dI) (cI := cI) (tb := tb) (a := a) (n := n) (Mod_thrown := Mod_thrown) (Mod_width := Mod_width) (Mod_height := Mod_height) (Mod_many := Mod_many) (Mod_size := Mod_size) (Mod_bit := Mod_bit) (Mod_single := Mod_single) (Mod_runs := Mod_runs) (Mod_longest := Mod_longest) (mc := mc) (x1 := x1) (x2 := y4) (x3 := x2) h) tw495 tw497 tw17 tw42 tw498 3 (by decide) ⟨Nat.le_of_ble_eq_true rfl, Nat.le_of_ble_eq_true rfl⟩ ⟨Nat.le_of_ble_eq_true rfl, Nat.le_of_ble_eq_true rfl⟩ ⟨rfl, rfl⟩ rfl rfl 0 rfl [0, 1] [] [0, 1] rfl rfl rfl rfl (by decide) rfl (fun _ => rfl) hl.1 rfl rfl (Nat.le_of_ble_eq_true rfl) d_Mod_sumOf_21 (fun r3 u2 H locs h hw => ?_)
      refine lv_istore (lv' := [(5, .int r3), (0, .ref (a 7)), (1, .int x1), (2, .int x2), (3, .int y3), (4, .int y4)]) hx hb d_Mod_sumOf_24 hl (by decide) rfl (fun ls hl => ?_)
      refine lv_iload_n hx hb d_Mod_sumOf_26 rfl (lv_at hl 4 rfl) ?_
      refine lv_iload hx hb d_Mod_sumOf_27 (lv_at hl 0 rfl) ?_
      refine lv_sipush (v := 256) hx hb d_Mod_sumOf_29 (by decide) ?_
      refine lv_iload hx hb d_Mod_sumOf_32 (lv_at hl 0 rfl) ?_
      refine lv_isub hx hb d_Mod_sumOf_34 ?_
      refine lv_icmp_ge (tgt := 43) hx hb d_Mod_sumOf_35 (by decide) (fun c4 => ?_) (fun c4 => ?_)
      · have h := h.1 c4
        refine lv_sipush (v := 256) hx hb d_Mod_sumOf_43 (by decide) ?_
        refine lv_iload hx hb d_Mod_sumOf_46 (lv_at hl 0 rfl) ?_
        refine lv_isub hx hb d_Mod_sumOf_48 ?_
        refine lv_iadd hx hb d_Mod_sumOf_49 ?_
        refine lv_topi (fun z5 ez5 => ?_)
        have h := h z5 ez5
        refine lv_istore_n (lv' := [(3, .int z5), (5, .int r3), (0, .ref (a 7)), (1, .int x1), (2, .int x2), (4, .int y4)]) hx hb d_Mod_sumOf_50 rfl hl (by decide) rfl (fun ls hl => ?_)
        obtain ⟨z6, ez6⟩ : ∃ z : Int32, z = y4 + 1 := ⟨_, rfl⟩
        have h := h z6 ez6
        refine lv_iinc (v := z6) (lv' := [(4, .int z6), (3, .int z5), (5, .int r3), (0, .ref (a 7)), (1, .int x1), (2, .int x2)]) hx hb d_Mod_sumOf_51 hl (k := 5) rfl (by rw [ez6]; exact congrArg (y4 + ·) (by decide)) (by decide) rfl (fun ls hl => ?_)
        refine lv_goto (tgt := 5) hx hb d_Mod_sumOf_54 (by decide) ?_
        exact ih z5 z6 _ _ ls hw (lv_sub hl [3, 4, 5, 1, 0] rfl) h
      · have h := h.2 c4
        refine lv_iload hx hb d_Mod_sumOf_38 (lv_at hl 0 rfl) ?_
        refine lv_goto (tgt := 49) hx hb d_Mod_sumOf_40 (by decide) ?_
        refine lv_iadd hx hb d_Mod_sumOf_49 ?_
        refine lv_topi (fun z7 ez7 => ?_)
        have h := h z7 ez7
        refine lv_istore_n (lv' := [(3, .int z7), (5, .int r3), (0, .ref (a 7)), (1, .int x1), (2, .int x2), (4, .int y4)]) hx hb d_Mod_sumOf_50 rfl hl (by decide) rfl (fun ls hl => ?_)
        obtain ⟨z8, ez8⟩ : ∃ z : Int32, z = y4 + 1 := ⟨_, rfl⟩
        have h := h z8 ez8
        refine lv_iinc (v := z8) (lv' := [(4, .int z8), (3, .int z7), (5, .int r3), (0, .ref (a 7)), (1, .int x1), (2, .int x2)]) hx hb d_Mod_sumOf_51 hl (k := 5) rfl (by rw [ez8]; exact congrArg (y4 + ·) (by decide)) (by decide) rfl (fun ls hl => ?_)
        refine lv_goto (tgt := 5) hx hb d_Mod_sumOf_54 (by decide) ?_
        exact ih z7 z8 _ _ ls hw (lv_sub hl [3, 4, 5, 1, 0] rfl) h
set_option maxHeartbeats 2000000 in
set_option maxRecDepth 20000 in
theorem c_Mod_sumOf {l : Launch} {dC : Nat → ClassId} {dI : Nat → Nat → Nat} {cI : ClassId} {tb : Tbs} {a n : Nat → Nat} {Mod_thrown : Int32} {Mod_width : Int32} {Mod_height : Int32} {Mod_many : Int32} {Mod_size : Int32} {Mod_bit : Int32} {Mod_single : Int32} {Mod_runs : Int32} {Mod_longest : Int32} {mc : Nat → Int32} {x1 : Int32} {x2 : Int32} {post : Int32 → Unit → Prop} (h : wp_Mod_sumOf n Mod_width mc x1 x2 post) : CtI classes dC dI cI tb l y_Mod_sumOf prog_9_method_10_code 6 .int ({ frames := 2, cells := 0, slots := 0, locals := 51 }) [.ref (a 7), .int x1, .int x2] [e_Mod a Mod_thrown Mod_width Mod_height Mod_many Mod_size Mod_bit Mod_single Mod_runs Mod_longest, e_ar a n cI 15 mc] (Unit) (fun _ => [e_Mod a Mod_thrown Mod_width Mod_height Mod_many Mod_size Mod_bit Mod_single Mod_runs Mod_longest, e_ar a n cI 15 mc]) post := by
  refine startI (by decide) (Nat.le_of_ble_eq_true rfl) ?_
  intro p e s m below meth c ls E hr hlk hnm hl hw
  have hl : lv_has ls 6 [(0, .ref (a 7)), (1, .int x1), (2, .int x2)] := hl
  generalize va_A [e_Mod a Mod_thrown Mod_width Mod_height Mod_many Mod_size Mod_bit Mod_single Mod_runs Mod_longest, e_ar a n cI 15 mc] s.heap.size = A at hw ⊢
  obtain ⟨hx, hb, hml, hown, hts⟩ := id E
  unfold wp_Mod_sumOf at h
  refine lv_iconst (v := 0) hx hb d_Mod_sumOf_0 (by decide) ?_
  refine lv_istore_n (lv' := [(3, .int 0), (0, .ref (a 7)), (1, .int x1), (2, .int x2)]) hx hb d_Mod_sumOf_1 rfl hl (by decide) rfl (fun ls hl => ?_)
  refine lv_iconst (v := 0) hx hb d_Mod_sumOf_2 (by decide) ?_
  refine lv_istore (lv' := [(4, .int 0), (3, .int 0), (0, .ref (a 7)), (1, .int x1), (2, .int x2)]) hx hb d_Mod_sumOf_3 hl (by decide) rfl (fun ls hl => ?_)
  obtain ⟨N9, h⟩ := h
  exact s_Mod_sumOf_5 (a := a) (n := n) (tb := tb) E hr hlk  N9 0 0 _ _ ls hw (lv_sub hl [2, 3, 4, 1, 0] rfl) h
-- PicturePackerModel.makeRows()V
theorem d_Mod_makeRows_0 : decode prog_9_method_11_code 0 = .ok (.aload_n 0, 1) := by decide +kernel
theorem d_Mod_makeRows_1 : decode prog_9_method_11_code 1 = .ok (.iconst 0, 1) := by decide +kernel
theorem d_Mod_makeRows_2 : decode prog_9_method_11_code 2 = .ok (.putfield 45, 3) := by decide +kernel
theorem d_Mod_makeRows_5 : decode prog_9_method_11_code 5 = .ok (.iconst 0, 1) := by decide +kernel
theorem d_Mod_makeRows_6 : decode prog_9_method_11_code 6 = .ok (.istore_n 1, 1) := by decide +kernel
theorem d_Mod_makeRows_7 : decode prog_9_method_11_code 7 = .ok (.iload_n 1, 1) := by decide +kernel
theorem d_Mod_makeRows_8 : decode prog_9_method_11_code 8 = .ok (.aload_n 0, 1) := by decide +kernel
theorem d_Mod_makeRows_9 : decode prog_9_method_11_code 9 = .ok (.getfield 23, 3) := by decide +kernel
theorem d_Mod_makeRows_12 : decode prog_9_method_11_code 12 = .ok (.if_icmp .ge 109, 3) := by decide +kernel
theorem d_Mod_makeRows_15 : decode prog_9_method_11_code 15 = .ok (.iconst 0, 1) := by decide +kernel
theorem d_Mod_makeRows_16 : decode prog_9_method_11_code 16 = .ok (.istore_n 2, 1) := by decide +kernel
theorem d_Mod_makeRows_17 : decode prog_9_method_11_code 17 = .ok (.iconst 1, 1) := by decide +kernel
theorem d_Mod_makeRows_18 : decode prog_9_method_11_code 18 = .ok (.istore_n 3, 1) := by decide +kernel
theorem d_Mod_makeRows_19 : decode prog_9_method_11_code 19 = .ok (.iload_n 3, 1) := by decide +kernel
theorem d_Mod_makeRows_20 : decode prog_9_method_11_code 20 = .ok (.iconst 5, 1) := by decide +kernel
theorem d_Mod_makeRows_21 : decode prog_9_method_11_code 21 = .ok (.if_icmp .ge 30, 3) := by decide +kernel
theorem d_Mod_makeRows_24 : decode prog_9_method_11_code 24 = .ok (.aload_n 0, 1) := by decide +kernel
theorem d_Mod_makeRows_25 : decode prog_9_method_11_code 25 = .ok (.iload_n 3, 1) := by decide +kernel
theorem d_Mod_makeRows_26 : decode prog_9_method_11_code 26 = .ok (.iload_n 1, 1) := by decide +kernel
theorem d_Mod_makeRows_27 : decode prog_9_method_11_code 27 = .ok (.invokevirtual 48, 3) := by decide +kernel
theorem d_Mod_makeRows_30 : decode prog_9_method_11_code 30 = .ok (.aload_n 0, 1) := by decide +kernel
theorem d_Mod_makeRows_31 : decode prog_9_method_11_code 31 = .ok (.iload_n 2, 1) := by decide +kernel
theorem d_Mod_makeRows_32 : decode prog_9_method_11_code 32 = .ok (.iload_n 1, 1) := by decide +kernel
theorem d_Mod_makeRows_33 : decode prog_9_method_11_code 33 = .ok (.invokevirtual 48, 3) := by decide +kernel
theorem d_Mod_makeRows_36 : decode prog_9_method_11_code 36 = .ok (.if_icmp .ge 7, 3) := by decide +kernel
theorem d_Mod_makeRows_39 : decode prog_9_method_11_code 39 = .ok (.iload_n 3, 1) := by decide +kernel
theorem d_Mod_makeRows_40 : decode prog_9_method_11_code 40 = .ok (.goto 4, 3) := by decide +kernel
theorem d_Mod_makeRows_43 : decode prog_9_method_11_code 43 = .ok (.iload_n 2, 1) := by decide +kernel
theorem d_Mod_makeRows_44 : decode prog_9_method_11_code 44 = .ok (.istore_n 2, 1) := by decide +kernel
theorem d_Mod_makeRows_45 : decode prog_9_method_11_code 45 = .ok (.iinc 3 1, 3) := by decide +kernel
theorem d_Mod_makeRows_48 : decode prog_9_method_11_code 48 = .ok (.goto (-29), 3) := by decide +kernel
theorem d_Mod_makeRows_51 : decode prog_9_method_11_code 51 = .ok (.aload_n 0, 1) := by decide +kernel
theorem d_Mod_makeRows_52 : decode prog_9_method_11_code 52 = .ok (.getfield 13, 3) := by decide +kernel
theorem d_Mod_makeRows_55 : decode prog_9_method_11_code 55 = .ok (.aload_n 0, 1) := by decide +kernel
theorem d_Mod_makeRows_56 : decode prog_9_method_11_code 56 = .ok (.getfield 45, 3) := by decide +kernel
theorem d_Mod_makeRows_59 : decode prog_9_method_11_code 59 = .ok (.iload_n 2, 1) := by decide +kernel
theorem d_Mod_makeRows_60 : decode prog_9_method_11_code 60 = .ok (.iastore, 1) := by decide +kernel
theorem d_Mod_makeRows_61 : decode prog_9_method_11_code 61 = .ok (.aload_n 0, 1) := by decide +kernel
theorem d_Mod_makeRows_62 : decode prog_9_method_11_code 62 = .ok (.dup, 1) := by decide +kernel
theorem d_Mod_makeRows_63 : decode prog_9_method_11_code 63 = .ok (.getfield 45, 3) := by decide +kernel
theorem d_Mod_makeRows_66 : decode prog_9_method_11_code 66 = .ok (.iconst 1, 1) := by decide +kernel
theorem d_Mod_makeRows_67 : decode prog_9_method_11_code 67 = .ok (.iadd, 1) := by decide +kernel
theorem d_Mod_makeRows_68 : decode prog_9_method_11_code 68 = .ok (.putfield 45, 3) := by decide +kernel
theorem d_Mod_makeRows_71 : decode prog_9_method_11_code 71 = .ok (.iconst 0, 1) := by decide +kernel
theorem d_Mod_makeRows_72 : decode prog_9_method_11_code 72 = .ok (.istore_n 3, 1) := by decide +kernel
theorem d_Mod_makeRows_73 : decode prog_9_method_11_code 73 = .ok (.iload_n 3, 1) := by decide +kernel
theorem d_Mod_makeRows_74 : decode prog_9_method_11_code 74 = .ok (.iconst 3, 1) := by decide +kernel
theorem d_Mod_makeRows_75 : decode prog_9_method_11_code 75 = .ok (.aload_n 0, 1) := by decide +kernel
theorem d_Mod_makeRows_76 : decode prog_9_method_11_code 76 = .ok (.getfield 19, 3) := by decide +kernel
theorem d_Mod_makeRows_79 : decode prog_9_method_11_code 79 = .ok (.imul, 1) := by decide +kernel
theorem d_Mod_makeRows_80 : decode prog_9_method_11_code 80 = .ok (.if_icmp .ge 35, 3) := by decide +kernel
theorem d_Mod_makeRows_83 : decode prog_9_method_11_code 83 = .ok (.aload_n 0, 1) := by decide +kernel
theorem d_Mod_makeRows_84 : decode prog_9_method_11_code 84 = .ok (.getfield 13, 3) := by decide +kernel
theorem d_Mod_makeRows_87 : decode prog_9_method_11_code 87 = .ok (.aload_n 0, 1) := by decide +kernel
theorem d_Mod_makeRows_88 : decode prog_9_method_11_code 88 = .ok (.getfield 45, 3) := by decide +kernel
theorem d_Mod_makeRows_91 : decode prog_9_method_11_code 91 = .ok (.aload_n 0, 1) := by decide +kernel
theorem d_Mod_makeRows_92 : decode prog_9_method_11_code 92 = .ok (.iload_n 2, 1) := by decide +kernel
theorem d_Mod_makeRows_93 : decode prog_9_method_11_code 93 = .ok (.iload_n 3, 1) := by decide +kernel
theorem d_Mod_makeRows_94 : decode prog_9_method_11_code 94 = .ok (.iload_n 1, 1) := by decide +kernel
theorem d_Mod_makeRows_95 : decode prog_9_method_11_code 95 = .ok (.invokevirtual 41, 3) := by decide +kernel
theorem d_Mod_makeRows_98 : decode prog_9_method_11_code 98 = .ok (.iastore, 1) := by decide +kernel
theorem d_Mod_makeRows_99 : decode prog_9_method_11_code 99 = .ok (.aload_n 0, 1) := by decide +kernel
theorem d_Mod_makeRows_100 : decode prog_9_method_11_code 100 = .ok (.dup, 1) := by decide +kernel
theorem d_Mod_makeRows_101 : decode prog_9_method_11_code 101 = .ok (.getfield 45, 3) := by decide +kernel
theorem d_Mod_makeRows_104 : decode prog_9_method_11_code 104 = .ok (.iconst 1, 1) := by decide +kernel
theorem d_Mod_makeRows_105 : decode prog_9_method_11_code 105 = .ok (.iadd, 1) := by decide +kernel
theorem d_Mod_makeRows_106 : decode prog_9_method_11_code 106 = .ok (.putfield 45, 3) := by decide +kernel
theorem d_Mod_makeRows_109 : decode prog_9_method_11_code 109 = .ok (.iinc 3 1, 3) := by decide +kernel
theorem d_Mod_makeRows_112 : decode prog_9_method_11_code 112 = .ok (.goto (-39), 3) := by decide +kernel
theorem d_Mod_makeRows_115 : decode prog_9_method_11_code 115 = .ok (.iinc 1 1, 3) := by decide +kernel
theorem d_Mod_makeRows_118 : decode prog_9_method_11_code 118 = .ok (.goto (-111), 3) := by decide +kernel
theorem d_Mod_makeRows_121 : decode prog_9_method_11_code 121 = .ok (.return_, 1) := by decide +kernel
abbrev y_Mod_makeRows : MethodName := ⟨"PicturePackerModel", "makeRows", "()V"⟩
def wp_Mod_makeRows_73 (n : Nat → Nat) (Mod_width : Int32) (Mod_height : Int32) (mc : Nat → Int32) (post : Int32 × (Nat → Int32) → Prop) (k7 : Int32 → (Nat → Int32) → Int32 → Prop) : Nat → Int32 → (Nat → Int32) → Int32 → Int32 → Int32 → Prop
  | 0 => fun _ _ _ _ _ => False
  | N + 1 => fun Mod_many mr y1 y2 y3 => ((3 * Mod_width : Int32) ≤ y3 → (∀ z7 : Int32, z7 = (y1 + 1) → (k7 Mod_many mr z7))) ∧ (¬ ((3 * Mod_width : Int32) ≤ y3) → (wp_Mod_filtered n mc y2 y3 y1 (fun r9 _ => vp_in Mod_many (n 16) ∧ (∀ f11 : Nat → Int32, f11 = upd mr (Mod_many : Int32).toNatClampNeg r9 → (∀ z12 : Int32, z12 = (Mod_many + 1) → (∀ z13 : Int32, z13 = (y3 + 1) → (wp_Mod_makeRows_73 n Mod_width Mod_height mc post k7 N z12 f11 y1 y2 z13)))))))
def wp_Mod_makeRows_19 (n : Nat → Nat) (Mod_width : Int32) (Mod_height : Int32) (mc : Nat → Int32) (post : Int32 × (Nat → Int32) → Prop) (k7 : Int32 → (Nat → Int32) → Int32 → Prop) : Nat → Int32 → (Nat → Int32) → Int32 → Int32 → Int32 → Prop
  | 0 => fun _ _ _ _ _ => False
  | N + 1 => fun Mod_many mr y1 y2 y3 => ((5 : Int32) ≤ y3 → (vp_in Mod_many (n 16) ∧ (∀ f4 : Nat → Int32, f4 = upd mr (Mod_many : Int32).toNatClampNeg y2 → (∀ z5 : Int32, z5 = (Mod_many + 1) → (∃ N14 : Nat, wp_Mod_makeRows_73 n Mod_width Mod_height mc post k7 N14 z5 f4 y1 y2 0))))) ∧ (¬ ((5 : Int32) ≤ y3) → (wp_Mod_sumOf n Mod_width mc y3 y1 (fun r16 _ => wp_Mod_sumOf n Mod_width mc y2 y1 (fun r18 _ => ((r18 : Int32) ≤ r16 → (∀ z20 : Int32, z20 = (y3 + 1) → (wp_Mod_makeRows_19 n Mod_width Mod_height mc post k7 N Mod_many mr y1 y2 z20))) ∧ (¬ ((r18 : Int32) ≤ r16) → (∀ z21 : Int32, z21 = (y3 + 1) → (wp_Mod_makeRows_19 n Mod_width Mod_height mc post k7 N Mod_many mr y1 y3 z21)))))))
def wp_Mod_makeRows_7 (n : Nat → Nat) (Mod_width : Int32) (Mod_height : Int32) (mc : Nat → Int32) (post : Int32 × (Nat → Int32) → Prop) : Nat → Int32 → (Nat → Int32) → Int32 → Prop
  | 0 => fun _ _ _ => False
  | N + 1 => fun Mod_many mr y1 => ((Mod_height : Int32) ≤ y1 → (post (Mod_many, mr))) ∧ (¬ ((Mod_height : Int32) ≤ y1) → (∃ N22 : Nat, wp_Mod_makeRows_19 n Mod_width Mod_height mc post (wp_Mod_makeRows_7 n Mod_width Mod_height mc post N) N22 Mod_many mr y1 0 1))
def wp_Mod_makeRows (n : Nat → Nat) (Mod_width : Int32) (Mod_height : Int32) (Mod_many : Int32) (mc : Nat → Int32) (mr : Nat → Int32) (post : Int32 × (Nat → Int32) → Prop) : Prop := ∃ N23 : Nat, wp_Mod_makeRows_7 n Mod_width Mod_height mc post N23 0 mr 0
set_option maxHeartbeats 2000000 in
set_option maxRecDepth 20000 in
theorem s_Mod_makeRows_73 {l : Launch} {dC : Nat → ClassId} {dI : Nat → Nat → Nat} {cI : ClassId} {tb : Tbs} {a n : Nat → Nat} {p : Program} {e : Env} {s : State} {m : MethodId} {args : Array Value} {below : List Frame} {meth : Method} {c : Code} {A : Nat → Prop} (E : CallFix p m c prog_9_method_11_code 4 s args TBL "PicturePackerModel") (hr : meth.sig.returnType = none) (hlk : meth.locks = false) {Mod_thrown : Int32} {Mod_width : Int32} {Mod_height : Int32} {Mod_size : Int32} {Mod_bit : Int32} {Mod_single : Int32} {Mod_runs : Int32} {Mod_longest : Int32} {mc : Nat → Int32} {post : Int32 × (Nat → Int32) → Prop} {k7 : Int32 → (Nat → Int32) → Int32 → Prop} (hk7 : ∀ (Mod_many : Int32) (mr : Nat → Int32) (y1 : Int32) (H : Heap) (locs : List Loc) (ls : Array Slot), Wl classes dC dI cI tb A s H locs [e_Mod a Mod_thrown Mod_width Mod_height Mod_many Mod_size Mod_bit Mod_single Mod_runs Mod_longest, e_ar a n cI 15 mc, e_ar a n cI 16 mr] → lv_has ls 4 [(0, .ref (a 7)), (1, .int y1)] → k7 Mod_many mr y1 → W p l e ({ frames := 3, cells := 0, slots := 0, locals := 76 }) s m args below meth c H locs 0 0 (MQ below (va_Qv post (fun u => End0 classes dC dI cI A [e_Mod a Mod_thrown Mod_width Mod_height u.1 Mod_size Mod_bit Mod_single Mod_runs Mod_longest, e_ar a n cI 15 mc, e_ar a n cI 16 u.2]) A) args s 0 0 A) (F0 m 7 ls [])) : ∀ (N : Nat) (Mod_many : Int32) (mr : Nat → Int32) (y1 : Int32) (y2 : Int32) (y3 : Int32) (H : Heap) (locs : List Loc) (ls : Array Slot), Wl classes dC dI cI tb A s H locs [e_Mod a Mod_thrown Mod_width Mod_height Mod_many Mod_size Mod_bit Mod_single Mod_runs Mod_longest, e_ar a n cI 15 mc, e_ar a n cI 16 mr] → lv_has ls 4 [(0, .ref (a 7)), (1, .int y1), (2, .int y2), (3, .int y3)] → wp_Mod_makeRows_73 n Mod_width Mod_height mc post k7 N Mod_many mr y1 y2 y3 → W p l e ({ frames := 3, cells := 0, slots := 0, locals := 76 }) s m args below meth c H locs 0 0 (MQ below (va_Qv post (fun u => End0 classes dC dI cI A [e_Mod a Mod_thrown Mod_width Mod_height u.1 Mod_size Mod_bit Mod_single Mod_runs Mod_longest, e_ar a n cI 15 mc, e_ar a n cI 16 u.2]) A) args s 0 0 A) (F0 m 73 ls []) := by
  obtain ⟨hx, hb, hml, hown, hts⟩ := id E
  intro N
  induction N with
  | zero =>
    intro _ _ _ _ _ H locs ls hw hl h
    exact absurd h id
  | succ N ih =>
    intro Mod_many mr y1 y2 y3 H locs ls hw hl h
    unfold wp_Mod_makeRows_73 at h
    refine lv_iload_n hx hb d_Mod_makeRows_73 rfl (lv_at hl 3 rfl) ?_
    refine lv_iconst (v := 3) hx hb d_Mod_makeRows_74 (by decide) ?_
    refine lv_aload_n hx hb d_Mod_makeRows_75 rfl (lv_at hl 0 rfl) ?_
    refine kget (v := .int Mod_width) (T := F_Mod) E hw in_Mod rfl 0 1 rfl (by decide) tw430 rfl d_Mod_makeRows_76 ?_
    refine lv_imul hx hb d_Mod_makeRows_79 ?_
    refine lv_icmp_ge (tgt := 115) hx hb d_Mod_makeRows_80 (by decide) (fun c6 => ?_) (fun c6 => ?_)
    · have h := h.1 c6
      obtain ⟨z7, ez7⟩ : ∃ z : Int32, z = y1 + 1 := ⟨_, rfl⟩
      have h := h z7 ez7
      refine lv_iinc (v := z7) (lv' := [(1, .int z7), (0, .ref (a 7)), (2, .int y2), (3, .int y3)]) hx hb d_Mod_makeRows_115 hl (k := 1) rfl (by rw [ez7]; exact congrArg (y1 + ·) (by decide)) (by decide) rfl (fun ls hl => ?_)
      refine lv_goto (tgt := 7) hx hb d_Mod_makeRows_118 (by decide) ?_
      exact hk7 Mod_many mr z7 _ _ ls hw (lv_sub hl [1, 0] rfl) h
    · have h := h.2 c6
      refine lv_aload_n hx hb d_Mod_makeRows_83 rfl (lv_at hl 0 rfl) ?_
      refine kget (v := .ref (a 16)) (T := F_Mod) E hw in_Mod rfl 0 4 rfl (by decide) tw433 rfl d_Mod_makeRows_84 ?_
      refine lv_aload_n hx hb d_Mod_makeRows_87 rfl (lv_at hl 0 rfl) ?_
      refine kget (v := .int Mod_many) (T := F_Mod) E hw in_Mod rfl 0 5 rfl (by decide) tw434 rfl d_Mod_makeRows_88 ?_
      refine lv_aload_n hx hb d_Mod_makeRows_91 rfl (lv_at hl 0 rfl) ?_
      refine lv_iload_n hx hb d_Mod_makeRows_92 rfl (lv_at hl 2 rfl) ?_
      refine lv_iload_n hx hb d_Mod_makeRows_93 rfl (lv_at hl 3 rfl) ?_
      refine lv_iload_n hx hb d_Mod_makeRows_94 rfl (lv_at hl 1 rfl) ?_
      refine kVi (y := y_Mod_filtered) (ws' := fun _ => [e_Mod a Mod_thrown Mod_width Mod_height Mod_many Mod_size Mod_bit Mod_single Mod_runs Mod_longest, e_ar a n cI 15 mc, e_ar a n cI 16 mr]) (wr := [e_ar a n cI 16 mr]) (As := [.int y2, .int y3, .int y1]) (rest := [.int Mod_many, .ref (a 16)]) E hw (c_Mod_filtered (l := l) (dC := dC) (dI := dI) (cI := cI) (tb := tb) (a := a) (n := n) (Mod_thrown := Mod_thrown) (Mod_width := Mod_width) (Mod_height := Mod_height) (Mod_many := Mod_many) (Mod_size := Mod_size) (Mod_bit := Mod_bit) (Mod_single := Mod_single) (Mod_runs := Mod_runs) (Mod_longest := Mod_longest) (mc := mc) (x1 := y2) (x2 := y3) (x3 := y1) h) tw495 tw497 tw17 tw42 tw498 3 (by decide) ⟨Nat.le_of_ble_eq_true rfl, Nat.le_of_ble_eq_true rfl⟩ ⟨Nat.le_of_ble_eq_true rfl, Nat.le_of_ble_eq_true rfl⟩ ⟨rfl, rfl⟩ rfl rfl 0 rfl [0, 1] [2] [1, 2, 0] rfl rfl rfl rfl (by decide) rfl (fun _ => rfl) hl.1 rfl rfl (Nat.le_of_ble_eq_true rfl) d_Mod_makeRows_95 (fun r9 u8 H locs h hw => ?_)
      obtain ⟨b10, h⟩ := h
      obtain ⟨f11, ef11⟩ : ∃ z : Nat → Int32, z = upd mr (Mod_many : Int32).toNatClampNeg r9 := ⟨_, rfl⟩
      have h := h f11 ef11
      refine kast (ws' := [e_Mod a Mod_thrown Mod_width Mod_height Mod_many Mod_size Mod_bit Mod_single Mod_runs Mod_longest, e_ar a n cI 15 mc, e_ar a n cI 16 f11]) E hw 2 rfl b10 (by rw [ef11]; rfl) d_Mod_makeRows_98 (fun H locs hw => ?_)
      refine lv_aload_n hx hb d_Mod_makeRows_99 rfl (lv_at hl 0 rfl) ?_
      refine lv_dup hx hb d_Mod_makeRows_100 rfl ?_
      refine kget (v := .int Mod_many) (T := F_Mod) E hw in_Mod rfl 0 5 rfl (by decide) tw434 rfl d_Mod_makeRows_101 ?_
      refine lv_iconst (v := 1) hx hb d_Mod_makeRows_104 (by decide) ?_
      refine lv_iadd hx hb d_Mod_makeRows_105 ?_
      refine lv_topi (fun z12 ez12 => ?_)
      have h := h z12 ez12
      refine kput (v := .int z12) (ty := .int) (T := F_Mod) (ws' := [e_Mod a Mod_thrown Mod_width Mod_height z12 Mod_size Mod_bit Mod_single Mod_runs Mod_longest, e_ar a n cI 15 mc, e_ar a n cI 16 f11]) E hw in_Mod t_Mod t_Mod_ok n_Mod rfl 0 5 rfl (by decide) tw434 rfl rfl rfl rfl (Nat.le_of_ble_eq_true rfl) rfl d_Mod_makeRows_106 (fun H locs hw => ?_)
      obtain ⟨z13, ez13⟩ : ∃ z : Int32, z = y3 + 1 := ⟨_, rfl⟩
      have h := h z13 ez13
      refine lv_iinc (v := z13) (lv' := [(3, .int z13), (0, .ref (a 7)), (1, .int y1), (2, .int y2)]) hx hb d_Mod_makeRows_109 hl (k := 3) rfl (by rw [ez13]; exact congrArg (y3 + ·) (by decide)) (by decide) rfl (fun ls hl => ?_)
      refine lv_goto (tgt := 73) hx hb d_Mod_makeRows_112 (by decide) ?_
      exact ih z12 f11 y1 y2 z13 _ _ ls hw (lv_sub hl [1, 2, 3, 0] rfl) h
set_option maxHeartbeats 2000000 in
set_option maxRecDepth 20000 in
theorem s_Mod_makeRows_19 {l : Launch} {dC : Nat → ClassId} {dI : Nat → Nat → Nat} {cI : ClassId} {tb : Tbs} {a n : Nat → Nat} {p : Program} {e : Env} {s : State} {m : MethodId} {args : Array Value} {below : List Frame} {meth : Method} {c : Code} {A : Nat → Prop} (E : CallFix p m c prog_9_method_11_code 4 s args TBL "PicturePackerModel") (hr : meth.sig.returnType = none) (hlk : meth.locks = false) {Mod_thrown : Int32} {Mod_width : Int32} {Mod_height : Int32} {Mod_size : Int32} {Mod_bit : Int32} {Mod_single : Int32} {Mod_runs : Int32} {Mod_longest : Int32} {mc : Nat → Int32} {post : Int32 × (Nat → Int32) → Prop} {k7 : Int32 → (Nat → Int32) → Int32 → Prop} (hk7 : ∀ (Mod_many : Int32) (mr : Nat → Int32) (y1 : Int32) (H : Heap) (locs : List Loc) (ls : Array Slot), Wl classes dC dI cI tb A s H locs [e_Mod a Mod_thrown Mod_width Mod_height Mod_many Mod_size Mod_bit Mod_single Mod_runs Mod_longest, e_ar a n cI 15 mc, e_ar a n cI 16 mr] → lv_has ls 4 [(0, .ref (a 7)), (1, .int y1)] → k7 Mod_many mr y1 → W p l e ({ frames := 3, cells := 0, slots := 0, locals := 76 }) s m args below meth c H locs 0 0 (MQ below (va_Qv post (fun u => End0 classes dC dI cI A [e_Mod a Mod_thrown Mod_width Mod_height u.1 Mod_size Mod_bit Mod_single Mod_runs Mod_longest, e_ar a n cI 15 mc, e_ar a n cI 16 u.2]) A) args s 0 0 A) (F0 m 7 ls [])) : ∀ (N : Nat) (Mod_many : Int32) (mr : Nat → Int32) (y1 : Int32) (y2 : Int32) (y3 : Int32) (H : Heap) (locs : List Loc) (ls : Array Slot), Wl classes dC dI cI tb A s H locs [e_Mod a Mod_thrown Mod_width Mod_height Mod_many Mod_size Mod_bit Mod_single Mod_runs Mod_longest, e_ar a n cI 15 mc, e_ar a n cI 16 mr] → lv_has ls 4 [(0, .ref (a 7)), (1, .int y1), (2, .int y2), (3, .int y3)] → wp_Mod_makeRows_19 n Mod_width Mod_height mc post k7 N Mod_many mr y1 y2 y3 → W p l e ({ frames := 3, cells := 0, slots := 0, locals := 76 }) s m args below meth c H locs 0 0 (MQ below (va_Qv post (fun u => End0 classes dC dI cI A [e_Mod a Mod_thrown Mod_width Mod_height u.1 Mod_size Mod_bit Mod_single Mod_runs Mod_longest, e_ar a n cI 15 mc, e_ar a n cI 16 u.2]) A) args s 0 0 A) (F0 m 19 ls []) := by
  obtain ⟨hx, hb, hml, hown, hts⟩ := id E
  intro N
  induction N with
  | zero =>
    intro _ _ _ _ _ H locs ls hw hl h
    exact absurd h id
  | succ N ih =>
    intro Mod_many mr y1 y2 y3 H locs ls hw hl h
    unfold wp_Mod_makeRows_19 at h
    refine lv_iload_n hx hb d_Mod_makeRows_19 rfl (lv_at hl 3 rfl) ?_
    refine lv_iconst (v := 5) hx hb d_Mod_makeRows_20 (by decide) ?_
    refine lv_icmp_ge (tgt := 51) hx hb d_Mod_makeRows_21 (by decide) (fun c2 => ?_) (fun c2 => ?_)
    · have h := h.1 c2
      refine lv_aload_n hx hb d_Mod_makeRows_51 rfl (lv_at hl 0 rfl) ?_
      refine kget (v := .ref (a 16)) (T := F_Mod) E hw in_Mod rfl 0 4 rfl (by decide) tw433 rfl d_Mod_makeRows_52 ?_
      refine lv_aload_n hx hb d_Mod_makeRows_55 rfl (lv_at hl 0 rfl) ?_
      refine kget (v := .int Mod_many) (T := F_Mod) E hw in_Mod rfl 0 5 rfl (by decide) tw434 rfl d_Mod_makeRows_56 ?_
      refine lv_iload_n hx hb d_Mod_makeRows_59 rfl (lv_at hl 2 rfl) ?_
      obtain ⟨b3, h⟩ := h
      obtain ⟨f4, ef4⟩ : ∃ z : Nat → Int32, z = upd mr (Mod_many : Int32).toNatClampNeg y2 := ⟨_, rfl⟩
      have h := h f4 ef4
      refine kast (ws' := [e_Mod a Mod_thrown Mod_width Mod_height Mod_many Mod_size Mod_bit Mod_single Mod_runs Mod_longest, e_ar a n cI 15 mc, e_ar a n cI 16 f4]) E hw 2 rfl b3 (by rw [ef4]; rfl) d_Mod_makeRows_60 (fun H locs hw => ?_)
      refine lv_aload_n hx hb d_Mod_makeRows_61 rfl (lv_at hl 0 rfl) ?_
      refine lv_dup hx hb d_Mod_makeRows_62 rfl ?_
      refine kget (v := .int Mod_many) (T := F_Mod) E hw in_Mod rfl 0 5 rfl (by decide) tw434 rfl d_Mod_makeRows_63 ?_
      refine lv_iconst (v := 1) hx hb d_Mod_makeRows_66 (by decide) ?_
      refine lv_iadd hx hb d_Mod_makeRows_67 ?_
      refine lv_topi (fun z5 ez5 => ?_)
      have h := h z5 ez5
      refine kput (v := .int z5) (ty := .int) (T := F_Mod) (ws' := [e_Mod a Mod_thrown Mod_width Mod_height z5 Mod_size Mod_bit Mod_single Mod_runs Mod_longest, e_ar a n cI 15 mc, e_ar a n cI 16 f4]) E hw in_Mod t_Mod t_Mod_ok n_Mod rfl 0 5 rfl (by decide) tw434 rfl rfl rfl rfl (Nat.le_of_ble_eq_true rfl) rfl d_Mod_makeRows_68 (fun H locs hw => ?_)
      refine lv_iconst (v := 0) hx hb d_Mod_makeRows_71 (by decide) ?_
      refine lv_istore_n (lv' := [(3, .int 0), (0, .ref (a 7)), (1, .int y1), (2, .int y2)]) hx hb d_Mod_makeRows_72 rfl hl (by decide) rfl (fun ls hl => ?_)
      obtain ⟨N14, h⟩ := h
      exact s_Mod_makeRows_73 (a := a) (n := n) (tb := tb) E hr hlk hk7 N14 z5 f4 y1 y2 0 _ _ ls hw (lv_sub hl [1, 2, 3, 0] rfl) h
    · have h := h.2 c2
      refine lv_aload_n hx hb d_Mod_makeRows_24 rfl (lv_at hl 0 rfl) ?_
      refine lv_iload_n hx hb d_Mod_makeRows_25 rfl (lv_at hl 3 rfl) ?_
      refine lv_iload_n hx hb d_Mod_makeRows_26 rfl (lv_at hl 1 rfl) ?_
      refine kVi (y := y_Mod_sumOf) (ws' := fun _ => [e_Mod a Mod_thrown Mod_width Mod_height Mod_many Mod_size Mod_bit Mod_single Mod_runs Mod_longest, e_ar a n cI 15 mc, e_ar a n cI 16 mr]) (wr := [e_ar a n cI 16 mr]) (As := [.int y3, .int y1]) (rest := []) E hw (c_Mod_sumOf (l := l) (dC := dC) (dI := dI) (cI := cI) (tb := tb) (a := a) (n := n) (Mod_thrown := Mod_thrown) (Mod_width := Mod_width) (Mod_height := Mod_height) (Mod_many := Mod_many) (Mod_size := Mod_size) (Mod_bit := Mod_bit) (Mod_single := Mod_single) (Mod_runs := Mod_runs) (Mod_longest := Mod_longest) (mc := mc) (x1 := y3) (x2 := y1) h) tw491 tw493 tw16 tw42 tw494 2 (by decide) ⟨Nat.le_of_ble_eq_true rfl, Nat.le_of_ble_eq_true rfl⟩ ⟨Nat.le_of_ble_eq_true rfl, Nat.le_of_ble_eq_true rfl⟩ ⟨rfl, rfl⟩ rfl rfl 0 rfl [0, 1] [2] [1, 2, 0] rfl rfl rfl rfl (by decide) rfl (fun _ => rfl) hl.1 rfl rfl (Nat.le_of_ble_eq_true rfl) d_Mod_makeRows_27 (fun r16 u15 H locs h hw => ?_)
      refine lv_aload_n hx hb d_Mod_makeRows_30 rfl (lv_at hl 0 rfl) ?_
      refine lv_iload_n hx hb d_Mod_makeRows_31 rfl (lv_at hl 2 rfl) ?_
      refine lv_iload_n hx hb d_Mod_makeRows_32 rfl (lv_at hl 1 rfl) ?_
      refine kVi (y := y_Mod_sumOf) (ws' := fun _ => [e_Mod a Mod_thrown Mod_width Mod_height Mod_many Mod_size Mod_bit Mod_single Mod_runs Mod_longest, e_ar a n cI 15 mc, e_ar a n cI 16 mr]) (wr := [e_ar a n cI 16 mr]) (As := [.int y2, .int y1]) (rest := [.int r16]) E hw (c_Mod_sumOf (l := l) (dC := dC) (dI := dI) (cI := cI) (tb := tb) (a := a) (n := n) (Mod_thrown := Mod_thrown) (Mod_width := Mod_width) (Mod_height := Mod_height) (Mod_many := Mod_many) (Mod_size := Mod_size) (Mod_bit := Mod_bit) (Mod_single := Mod_single) (Mod_runs := Mod_runs) (Mod_longest := Mod_longest) (mc := mc) (x1 := y2) (x2 := y1) h) tw491 tw493 tw16 tw42 tw494 2 (by decide) ⟨Nat.le_of_ble_eq_true rfl, Nat.le_of_ble_eq_true rfl⟩ ⟨Nat.le_of_ble_eq_true rfl, Nat.le_of_ble_eq_true rfl⟩ ⟨rfl, rfl⟩ rfl rfl 0 rfl [0, 1] [2] [1, 2, 0] rfl rfl rfl rfl (by decide) rfl (fun _ => rfl) hl.1 rfl rfl (Nat.le_of_ble_eq_true rfl) d_Mod_makeRows_33 (fun r18 u17 H locs h hw => ?_)
      refine lv_icmp_ge (tgt := 43) hx hb d_Mod_makeRows_36 (by decide) (fun c19 => ?_) (fun c19 => ?_)
      · have h := h.1 c19
        refine lv_iload_n hx hb d_Mod_makeRows_43 rfl (lv_at hl 2 rfl) ?_
        refine lv_istore_n (lv' := [(2, .int y2), (0, .ref (a 7)), (1, .int y1), (3, .int y3)]) hx hb d_Mod_makeRows_44 rfl hl (by decide) rfl (fun ls hl => ?_)
        obtain ⟨z20, ez20⟩ : ∃ z : Int32, z = y3 + 1 := ⟨_, rfl⟩
        have h := h z20 ez20
        refine lv_iinc (v := z20) (lv' := [(3, .int z20), (2, .int y2), (0, .ref (a 7)), (1, .int y1)]) hx hb d_Mod_makeRows_45 hl (k := 3) rfl (by rw [ez20]; exact congrArg (y3 + ·) (by decide)) (by decide) rfl (fun ls hl => ?_)
        refine lv_goto (tgt := 19) hx hb d_Mod_makeRows_48 (by decide) ?_
        exact ih Mod_many mr y1 y2 z20 _ _ ls hw (lv_sub hl [2, 3, 1, 0] rfl) h
      · have h := h.2 c19
        refine lv_iload_n hx hb d_Mod_makeRows_39 rfl (lv_at hl 3 rfl) ?_
        refine lv_goto (tgt := 44) hx hb d_Mod_makeRows_40 (by decide) ?_
        refine lv_istore_n (lv' := [(2, .int y3), (0, .ref (a 7)), (1, .int y1), (3, .int y3)]) hx hb d_Mod_makeRows_44 rfl hl (by decide) rfl (fun ls hl => ?_)
        obtain ⟨z21, ez21⟩ : ∃ z : Int32, z = y3 + 1 := ⟨_, rfl⟩
        have h := h z21 ez21
        refine lv_iinc (v := z21) (lv' := [(3, .int z21), (2, .int y3), (0, .ref (a 7)), (1, .int y1)]) hx hb d_Mod_makeRows_45 hl (k := 3) rfl (by rw [ez21]; exact congrArg (y3 + ·) (by decide)) (by decide) rfl (fun ls hl => ?_)
        refine lv_goto (tgt := 19) hx hb d_Mod_makeRows_48 (by decide) ?_
        exact ih Mod_many mr y1 y3 z21 _ _ ls hw (lv_sub hl [2, 3, 1, 0] rfl) h
set_option maxHeartbeats 2000000 in
set_option maxRecDepth 20000 in
theorem s_Mod_makeRows_7 {l : Launch} {dC : Nat → ClassId} {dI : Nat → Nat → Nat} {cI : ClassId} {tb : Tbs} {a n : Nat → Nat} {p : Program} {e : Env} {s : State} {m : MethodId} {args : Array Value} {below : List Frame} {meth : Method} {c : Code} {A : Nat → Prop} (E : CallFix p m c prog_9_method_11_code 4 s args TBL "PicturePackerModel") (hr : meth.sig.returnType = none) (hlk : meth.locks = false) {Mod_thrown : Int32} {Mod_width : Int32} {Mod_height : Int32} {Mod_size : Int32} {Mod_bit : Int32} {Mod_single : Int32} {Mod_runs : Int32} {Mod_longest : Int32} {mc : Nat → Int32} {post : Int32 × (Nat → Int32) → Prop} : ∀ (N : Nat) (Mod_many : Int32) (mr : Nat → Int32) (y1 : Int32) (H : Heap) (locs : List Loc) (ls : Array Slot), Wl classes dC dI cI tb A s H locs [e_Mod a Mod_thrown Mod_width Mod_height Mod_many Mod_size Mod_bit Mod_single Mod_runs Mod_longest, e_ar a n cI 15 mc, e_ar a n cI 16 mr] → lv_has ls 4 [(0, .ref (a 7)), (1, .int y1)] → wp_Mod_makeRows_7 n Mod_width Mod_height mc post N Mod_many mr y1 → W p l e ({ frames := 3, cells := 0, slots := 0, locals := 76 }) s m args below meth c H locs 0 0 (MQ below (va_Qv post (fun u => End0 classes dC dI cI A [e_Mod a Mod_thrown Mod_width Mod_height u.1 Mod_size Mod_bit Mod_single Mod_runs Mod_longest, e_ar a n cI 15 mc, e_ar a n cI 16 u.2]) A) args s 0 0 A) (F0 m 7 ls []) := by
  obtain ⟨hx, hb, hml, hown, hts⟩ := id E
  intro N
  induction N with
  | zero =>
    intro _ _ _ H locs ls hw hl h
    exact absurd h id
  | succ N ih =>
    intro Mod_many mr y1 H locs ls hw hl h
    unfold wp_Mod_makeRows_7 at h
    refine lv_iload_n hx hb d_Mod_makeRows_7 rfl (lv_at hl 1 rfl) ?_
    refine lv_aload_n hx hb d_Mod_makeRows_8 rfl (lv_at hl 0 rfl) ?_
    refine kget (v := .int Mod_height) (T := F_Mod) E hw in_Mod rfl 0 2 rfl (by decide) tw431 rfl d_Mod_makeRows_9 ?_
    refine lv_icmp_ge (tgt := 121) hx hb d_Mod_makeRows_12 (by decide) (fun c1 => ?_) (fun c1 => ?_)
    · have h := h.1 c1
      exact retV (out := fun u => [e_Mod a Mod_thrown Mod_width Mod_height u.1 Mod_size Mod_bit Mod_single Mod_runs Mod_longest, e_ar a n cI 15 mc, e_ar a n cI 16 u.2]) (u := (Mod_many, mr)) E hr hlk hw h d_Mod_makeRows_121
    · have h := h.2 c1
      refine lv_iconst (v := 0) hx hb d_Mod_makeRows_15 (by decide) ?_
      refine lv_istore_n (lv' := [(2, .int 0), (0, .ref (a 7)), (1, .int y1)]) hx hb d_Mod_makeRows_16 rfl hl (by decide) rfl (fun ls hl => ?_)
      refine lv_iconst (v := 1) hx hb d_Mod_makeRows_17 (by decide) ?_
      refine lv_istore_n (lv' := [(3, .int 1), (2, .int 0), (0, .ref (a 7)), (1, .int y1)]) hx hb d_Mod_makeRows_18 rfl hl (by decide) rfl (fun ls hl => ?_)
      obtain ⟨N22, h⟩ := h
      exact s_Mod_makeRows_19 (a := a) (n := n) (tb := tb) E hr hlk ih N22 Mod_many mr y1 0 1 _ _ ls hw (lv_sub hl [2, 3, 1, 0] rfl) h
set_option maxHeartbeats 2000000 in
set_option maxRecDepth 20000 in
theorem c_Mod_makeRows {l : Launch} {dC : Nat → ClassId} {dI : Nat → Nat → Nat} {cI : ClassId} {tb : Tbs} {a n : Nat → Nat} {Mod_thrown : Int32} {Mod_width : Int32} {Mod_height : Int32} {Mod_many : Int32} {Mod_size : Int32} {Mod_bit : Int32} {Mod_single : Int32} {Mod_runs : Int32} {Mod_longest : Int32} {mc : Nat → Int32} {mr : Nat → Int32} {post : Int32 × (Nat → Int32) → Prop} (h : wp_Mod_makeRows n Mod_width Mod_height Mod_many mc mr post) : CtV classes dC dI cI tb l y_Mod_makeRows prog_9_method_11_code 4 ({ frames := 3, cells := 0, slots := 0, locals := 76 }) [.ref (a 7)] [e_Mod a Mod_thrown Mod_width Mod_height Mod_many Mod_size Mod_bit Mod_single Mod_runs Mod_longest, e_ar a n cI 15 mc, e_ar a n cI 16 mr] (Int32 × (Nat → Int32)) (fun u => [e_Mod a Mod_thrown Mod_width Mod_height u.1 Mod_size Mod_bit Mod_single Mod_runs Mod_longest, e_ar a n cI 15 mc, e_ar a n cI 16 u.2]) post := by
  refine startV (by decide) (Nat.le_of_ble_eq_true rfl) ?_
  intro p e s m below meth c ls E hr hlk hnm hl hw
  have hl : lv_has ls 4 [(0, .ref (a 7))] := hl
  generalize va_A [e_Mod a Mod_thrown Mod_width Mod_height Mod_many Mod_size Mod_bit Mod_single Mod_runs Mod_longest, e_ar a n cI 15 mc, e_ar a n cI 16 mr] s.heap.size = A at hw ⊢
  obtain ⟨hx, hb, hml, hown, hts⟩ := id E
  unfold wp_Mod_makeRows at h
  refine lv_aload_n hx hb d_Mod_makeRows_0 rfl (lv_at hl 0 rfl) ?_
  refine lv_iconst (v := 0) hx hb d_Mod_makeRows_1 (by decide) ?_
  refine kput (v := .int 0) (ty := .int) (T := F_Mod) (ws' := [e_Mod a Mod_thrown Mod_width Mod_height 0 Mod_size Mod_bit Mod_single Mod_runs Mod_longest, e_ar a n cI 15 mc, e_ar a n cI 16 mr]) E hw in_Mod t_Mod t_Mod_ok n_Mod rfl 0 5 rfl (by decide) tw434 rfl rfl rfl rfl (Nat.le_of_ble_eq_true rfl) rfl d_Mod_makeRows_2 (fun H locs hw => ?_)
  refine lv_iconst (v := 0) hx hb d_Mod_makeRows_5 (by decide) ?_
  refine lv_istore_n (lv' := [(1, .int 0), (0, .ref (a 7))]) hx hb d_Mod_makeRows_6 rfl hl (by decide) rfl (fun ls hl => ?_)
  obtain ⟨N23, h⟩ := h
  exact s_Mod_makeRows_7 (a := a) (n := n) (tb := tb) E hr hlk  N23 0 mr 0 _ _ ls hw (lv_sub hl [1, 0] rfl) h
-- PicturePackerModel.one(I)V
theorem d_Mod_one_0 : decode prog_9_method_12_code 0 = .ok (.aload_n 0, 1) := by decide +kernel
theorem d_Mod_one_1 : decode prog_9_method_12_code 1 = .ok (.getfield 16, 3) := by decide +kernel
theorem d_Mod_one_4 : decode prog_9_method_12_code 4 = .ok (.aload_n 0, 1) := by decide +kernel
theorem d_Mod_one_5 : decode prog_9_method_12_code 5 = .ok (.getfield 51, 3) := by decide +kernel
theorem d_Mod_one_8 : decode prog_9_method_12_code 8 = .ok (.iload_n 1, 1) := by decide +kernel
theorem d_Mod_one_9 : decode prog_9_method_12_code 9 = .ok (.sipush 255, 3) := by decide +kernel
theorem d_Mod_one_12 : decode prog_9_method_12_code 12 = .ok (.iand, 1) := by decide +kernel
theorem d_Mod_one_13 : decode prog_9_method_12_code 13 = .ok (.iastore, 1) := by decide +kernel
theorem d_Mod_one_14 : decode prog_9_method_12_code 14 = .ok (.aload_n 0, 1) := by decide +kernel
theorem d_Mod_one_15 : decode prog_9_method_12_code 15 = .ok (.dup, 1) := by decide +kernel
theorem d_Mod_one_16 : decode prog_9_method_12_code 16 = .ok (.getfield 51, 3) := by decide +kernel
theorem d_Mod_one_19 : decode prog_9_method_12_code 19 = .ok (.iconst 1, 1) := by decide +kernel
theorem d_Mod_one_20 : decode prog_9_method_12_code 20 = .ok (.iadd, 1) := by decide +kernel
theorem d_Mod_one_21 : decode prog_9_method_12_code 21 = .ok (.putfield 51, 3) := by decide +kernel
theorem d_Mod_one_24 : decode prog_9_method_12_code 24 = .ok (.return_, 1) := by decide +kernel
abbrev y_Mod_one : MethodName := ⟨"PicturePackerModel", "one", "(I)V"⟩
def wp_Mod_one (n : Nat → Nat) (Mod_size : Int32) (mf : Nat → Int32) (x1 : Int32) (post : Int32 × (Nat → Int32) → Prop) : Prop := ∀ z1 : Int32, z1 = (x1 &&& 255) → (vp_in Mod_size (n 17) ∧ (∀ f3 : Nat → Int32, f3 = upd mf (Mod_size : Int32).toNatClampNeg z1 → (∀ z4 : Int32, z4 = (Mod_size + 1) → (post (z4, f3)))))
set_option maxHeartbeats 2000000 in
set_option maxRecDepth 20000 in
theorem c_Mod_one {l : Launch} {dC : Nat → ClassId} {dI : Nat → Nat → Nat} {cI : ClassId} {tb : Tbs} {a n : Nat → Nat} {Mod_thrown : Int32} {Mod_width : Int32} {Mod_height : Int32} {Mod_many : Int32} {Mod_size : Int32} {Mod_bit : Int32} {Mod_single : Int32} {Mod_runs : Int32} {Mod_longest : Int32} {mf : Nat → Int32} {x1 : Int32} {post : Int32 × (Nat → Int32) → Prop} (h : wp_Mod_one n Mod_size mf x1 post) : CtV classes dC dI cI tb l y_Mod_one prog_9_method_12_code 2 ({ frames := 0, cells := 0, slots := 0, locals := 0 }) [.ref (a 7), .int x1] [e_Mod a Mod_thrown Mod_width Mod_height Mod_many Mod_size Mod_bit Mod_single Mod_runs Mod_longest, e_ar a n cI 17 mf] (Int32 × (Nat → Int32)) (fun u => [e_Mod a Mod_thrown Mod_width Mod_height Mod_many u.1 Mod_bit Mod_single Mod_runs Mod_longest, e_ar a n cI 17 u.2]) post := by
  refine startV (by decide) (Nat.le_of_ble_eq_true rfl) ?_
  intro p e s m below meth c ls E hr hlk hnm hl hw
  have hl : lv_has ls 2 [(0, .ref (a 7)), (1, .int x1)] := hl
  generalize va_A [e_Mod a Mod_thrown Mod_width Mod_height Mod_many Mod_size Mod_bit Mod_single Mod_runs Mod_longest, e_ar a n cI 17 mf] s.heap.size = A at hw ⊢
  obtain ⟨hx, hb, hml, hown, hts⟩ := id E
  unfold wp_Mod_one at h
  refine lv_aload_n hx hb d_Mod_one_0 rfl (lv_at hl 0 rfl) ?_
  refine kget (v := .ref (a 17)) (T := F_Mod) E hw in_Mod rfl 0 6 rfl (by decide) tw435 rfl d_Mod_one_1 ?_
  refine lv_aload_n hx hb d_Mod_one_4 rfl (lv_at hl 0 rfl) ?_
  refine kget (v := .int Mod_size) (T := F_Mod) E hw in_Mod rfl 0 7 rfl (by decide) tw436 rfl d_Mod_one_5 ?_
  refine lv_iload_n hx hb d_Mod_one_8 rfl (lv_at hl 1 rfl) ?_
  refine lv_sipush (v := 255) hx hb d_Mod_one_9 (by decide) ?_
  refine lv_iand hx hb d_Mod_one_12 ?_
  refine lv_topi (fun z1 ez1 => ?_)
  have h := h z1 ez1
  obtain ⟨b2, h⟩ := h
  obtain ⟨f3, ef3⟩ : ∃ z : Nat → Int32, z = upd mf (Mod_size : Int32).toNatClampNeg z1 := ⟨_, rfl⟩
  have h := h f3 ef3
  refine kast (ws' := [e_Mod a Mod_thrown Mod_width Mod_height Mod_many Mod_size Mod_bit Mod_single Mod_runs Mod_longest, e_ar a n cI 17 f3]) E hw 1 rfl b2 (by rw [ef3]; rfl) d_Mod_one_13 (fun H locs hw => ?_)
  refine lv_aload_n hx hb d_Mod_one_14 rfl (lv_at hl 0 rfl) ?_
  refine lv_dup hx hb d_Mod_one_15 rfl ?_
  refine kget (v := .int Mod_size) (T := F_Mod) E hw in_Mod rfl 0 7 rfl (by decide) tw436 rfl d_Mod_one_16 ?_
  refine lv_iconst (v := 1) hx hb d_Mod_one_19 (by decide) ?_
  refine lv_iadd hx hb d_Mod_one_20 ?_
  refine lv_topi (fun z4 ez4 => ?_)
  have h := h z4 ez4
  refine kput (v := .int z4) (ty := .int) (T := F_Mod) (ws' := [e_Mod a Mod_thrown Mod_width Mod_height Mod_many z4 Mod_bit Mod_single Mod_runs Mod_longest, e_ar a n cI 17 f3]) E hw in_Mod t_Mod t_Mod_ok n_Mod rfl 0 7 rfl (by decide) tw436 rfl rfl rfl rfl (Nat.le_of_ble_eq_true rfl) rfl d_Mod_one_21 (fun H locs hw => ?_)
  exact retV (out := fun u => [e_Mod a Mod_thrown Mod_width Mod_height Mod_many u.1 Mod_bit Mod_single Mod_runs Mod_longest, e_ar a n cI 17 u.2]) (u := (z4, f3)) E hr hlk hw h d_Mod_one_24
-- PicturePackerModel.four(I)V
theorem d_Mod_four_0 : decode prog_9_method_13_code 0 = .ok (.aload_n 0, 1) := by decide +kernel
theorem d_Mod_four_1 : decode prog_9_method_13_code 1 = .ok (.iload_n 1, 1) := by decide +kernel
theorem d_Mod_four_2 : decode prog_9_method_13_code 2 = .ok (.bipush 24, 2) := by decide +kernel
theorem d_Mod_four_4 : decode prog_9_method_13_code 4 = .ok (.ishr, 1) := by decide +kernel
theorem d_Mod_four_5 : decode prog_9_method_13_code 5 = .ok (.invokevirtual 54, 3) := by decide +kernel
theorem d_Mod_four_8 : decode prog_9_method_13_code 8 = .ok (.aload_n 0, 1) := by decide +kernel
theorem d_Mod_four_9 : decode prog_9_method_13_code 9 = .ok (.iload_n 1, 1) := by decide +kernel
theorem d_Mod_four_10 : decode prog_9_method_13_code 10 = .ok (.bipush 16, 2) := by decide +kernel
theorem d_Mod_four_12 : decode prog_9_method_13_code 12 = .ok (.ishr, 1) := by decide +kernel
theorem d_Mod_four_13 : decode prog_9_method_13_code 13 = .ok (.invokevirtual 54, 3) := by decide +kernel
theorem d_Mod_four_16 : decode prog_9_method_13_code 16 = .ok (.aload_n 0, 1) := by decide +kernel
theorem d_Mod_four_17 : decode prog_9_method_13_code 17 = .ok (.iload_n 1, 1) := by decide +kernel
theorem d_Mod_four_18 : decode prog_9_method_13_code 18 = .ok (.bipush 8, 2) := by decide +kernel
theorem d_Mod_four_20 : decode prog_9_method_13_code 20 = .ok (.ishr, 1) := by decide +kernel
theorem d_Mod_four_21 : decode prog_9_method_13_code 21 = .ok (.invokevirtual 54, 3) := by decide +kernel
theorem d_Mod_four_24 : decode prog_9_method_13_code 24 = .ok (.aload_n 0, 1) := by decide +kernel
theorem d_Mod_four_25 : decode prog_9_method_13_code 25 = .ok (.iload_n 1, 1) := by decide +kernel
theorem d_Mod_four_26 : decode prog_9_method_13_code 26 = .ok (.invokevirtual 54, 3) := by decide +kernel
theorem d_Mod_four_29 : decode prog_9_method_13_code 29 = .ok (.return_, 1) := by decide +kernel
abbrev y_Mod_four : MethodName := ⟨"PicturePackerModel", "four", "(I)V"⟩
def wp_Mod_four (n : Nat → Nat) (Mod_size : Int32) (mf : Nat → Int32) (x1 : Int32) (post : Int32 × (Nat → Int32) → Prop) : Prop := wp_Mod_one n Mod_size mf ((x1 : Int32) >>> (24 &&& 31)) (fun u1 => wp_Mod_one n u1.1 u1.2 ((x1 : Int32) >>> (16 &&& 31)) (fun u3 => wp_Mod_one n u3.1 u3.2 ((x1 : Int32) >>> (8 &&& 31)) (fun u5 => wp_Mod_one n u5.1 u5.2 x1 (fun u7 => post (u7.1, u7.2)))))
set_option maxHeartbeats 2000000 in
set_option maxRecDepth 20000 in
theorem c_Mod_four {l : Launch} {dC : Nat → ClassId} {dI : Nat → Nat → Nat} {cI : ClassId} {tb : Tbs} {a n : Nat → Nat} {Mod_thrown : Int32} {Mod_width : Int32} {Mod_height : Int32} {Mod_many : Int32} {Mod_size : Int32} {Mod_bit : Int32} {Mod_single : Int32} {Mod_runs : Int32} {Mod_longest : Int32} {mf : Nat → Int32} {x1 : Int32} {post : Int32 × (Nat → Int32) → Prop} (h : wp_Mod_four n Mod_size mf x1 post) : CtV classes dC dI cI tb l y_Mod_four prog_9_method_13_code 2 ({ frames := 1, cells := 0, slots := 0, locals := 21 }) [.ref (a 7), .int x1] [e_Mod a Mod_thrown Mod_width Mod_height Mod_many Mod_size Mod_bit Mod_single Mod_runs Mod_longest, e_ar a n cI 17 mf] (Int32 × (Nat → Int32)) (fun u => [e_Mod a Mod_thrown Mod_width Mod_height Mod_many u.1 Mod_bit Mod_single Mod_runs Mod_longest, e_ar a n cI 17 u.2]) post := by
  refine startV (by decide) (Nat.le_of_ble_eq_true rfl) ?_
  intro p e s m below meth c ls E hr hlk hnm hl hw
  have hl : lv_has ls 2 [(0, .ref (a 7)), (1, .int x1)] := hl
  generalize va_A [e_Mod a Mod_thrown Mod_width Mod_height Mod_many Mod_size Mod_bit Mod_single Mod_runs Mod_longest, e_ar a n cI 17 mf] s.heap.size = A at hw ⊢
  obtain ⟨hx, hb, hml, hown, hts⟩ := id E
  unfold wp_Mod_four at h
  refine lv_aload_n hx hb d_Mod_four_0 rfl (lv_at hl 0 rfl) ?_
  refine lv_iload_n hx hb d_Mod_four_1 rfl (lv_at hl 1 rfl) ?_
  refine lv_bipush (v := 24) hx hb d_Mod_four_2 (by decide) ?_
  refine lv_ishr hx hb d_Mod_four_4 ?_
  refine kVv (y := y_Mod_one) (ws' := fun u1 => [e_Mod a Mod_thrown Mod_width Mod_height Mod_many u1.1 Mod_bit Mod_single Mod_runs Mod_longest, e_ar a n cI 17 u1.2]) (wr := []) (As := [.int ((x1 : Int32) >>> (24 &&& 31))]) (rest := []) E hw (c_Mod_one (l := l) (dC := dC) (dI := dI) (cI := cI) (tb := tb) (a := a) (n := n) (Mod_thrown := Mod_thrown) (Mod_width := Mod_width) (Mod_height := Mod_height) (Mod_many := Mod_many) (Mod_size := Mod_size) (Mod_bit := Mod_bit) (Mod_single := Mod_single) (Mod_runs := Mod_runs) (Mod_longest := Mod_longest) (mf := mf) (x1 := (x1 : Int32) >>> (24 &&& 31)) h) tw510 tw512 tw20 tw42 tw513 1 (by decide) ⟨Nat.le_of_ble_eq_true rfl, Nat.le_of_ble_eq_true rfl⟩ ⟨Nat.le_of_ble_eq_true rfl, Nat.le_of_ble_eq_true rfl⟩ ⟨rfl, rfl⟩ rfl rfl 0 rfl [0, 1] [] [0, 1] rfl rfl rfl rfl (by decide) rfl (fun _ => rfl) hl.1 rfl rfl (Nat.le_of_ble_eq_true rfl) d_Mod_four_5 (fun u1 H locs h hw => ?_)
  refine lv_aload_n hx hb d_Mod_four_8 rfl (lv_at hl 0 rfl) ?_
  refine lv_iload_n hx hb d_Mod_four_9 rfl (lv_at hl 1 rfl) ?_
  refine lv_bipush (v := 16) hx hb d_Mod_four_10 (by decide) ?_
  refine lv_ishr hx hb d_Mod_four_12 ?_
  refine kVv (y := y_Mod_one) (ws' := fun u3 => [e_Mod a Mod_thrown Mod_width Mod_height Mod_many u3.1 Mod_bit Mod_single Mod_runs Mod_longest, e_ar a n cI 17 u3.2]) (wr := []) (As := [.int ((x1 : Int32) >>> (16 &&& 31))]) (rest := []) E hw (c_Mod_one (l := l) (dC := dC) (dI := dI) (cI := cI) (tb := tb) (a := a) (n := n) (Mod_thrown := Mod_thrown) (Mod_width := Mod_width) (Mod_height := Mod_height) (Mod_many := Mod_many) (Mod_size := u1.1) (Mod_bit := Mod_bit) (Mod_single := Mod_single) (Mod_runs := Mod_runs) (Mod_longest := Mod_longest) (mf := u1.2) (x1 := (x1 : Int32) >>> (16 &&& 31)) h) tw510 tw512 tw20 tw42 tw513 1 (by decide) ⟨Nat.le_of_ble_eq_true rfl, Nat.le_of_ble_eq_true rfl⟩ ⟨Nat.le_of_ble_eq_true rfl, Nat.le_of_ble_eq_true rfl⟩ ⟨rfl, rfl⟩ rfl rfl 0 rfl [0, 1] [] [0, 1] rfl rfl rfl rfl (by decide) rfl (fun _ => rfl) hl.1 rfl rfl (Nat.le_of_ble_eq_true rfl) d_Mod_four_13 (fun u3 H locs h hw => ?_)
  refine lv_aload_n hx hb d_Mod_four_16 rfl (lv_at hl 0 rfl) ?_
  refine lv_iload_n hx hb d_Mod_four_17 rfl (lv_at hl 1 rfl) ?_
  refine lv_bipush (v := 8) hx hb d_Mod_four_18 (by decide) ?_
  refine lv_ishr hx hb d_Mod_four_20 ?_
  refine kVv (y := y_Mod_one) (ws' := fun u5 => [e_Mod a Mod_thrown Mod_width Mod_height Mod_many u5.1 Mod_bit Mod_single Mod_runs Mod_longest, e_ar a n cI 17 u5.2]) (wr := []) (As := [.int ((x1 : Int32) >>> (8 &&& 31))]) (rest := []) E hw (c_Mod_one (l := l) (dC := dC) (dI := dI) (cI := cI) (tb := tb) (a := a) (n := n) (Mod_thrown := Mod_thrown) (Mod_width := Mod_width) (Mod_height := Mod_height) (Mod_many := Mod_many) (Mod_size := u3.1) (Mod_bit := Mod_bit) (Mod_single := Mod_single) (Mod_runs := Mod_runs) (Mod_longest := Mod_longest) (mf := u3.2) (x1 := (x1 : Int32) >>> (8 &&& 31)) h) tw510 tw512 tw20 tw42 tw513 1 (by decide) ⟨Nat.le_of_ble_eq_true rfl, Nat.le_of_ble_eq_true rfl⟩ ⟨Nat.le_of_ble_eq_true rfl, Nat.le_of_ble_eq_true rfl⟩ ⟨rfl, rfl⟩ rfl rfl 0 rfl [0, 1] [] [0, 1] rfl rfl rfl rfl (by decide) rfl (fun _ => rfl) hl.1 rfl rfl (Nat.le_of_ble_eq_true rfl) d_Mod_four_21 (fun u5 H locs h hw => ?_)
  refine lv_aload_n hx hb d_Mod_four_24 rfl (lv_at hl 0 rfl) ?_
  refine lv_iload_n hx hb d_Mod_four_25 rfl (lv_at hl 1 rfl) ?_
  refine kVv (y := y_Mod_one) (ws' := fun u7 => [e_Mod a Mod_thrown Mod_width Mod_height Mod_many u7.1 Mod_bit Mod_single Mod_runs Mod_longest, e_ar a n cI 17 u7.2]) (wr := []) (As := [.int x1]) (rest := []) E hw (c_Mod_one (l := l) (dC := dC) (dI := dI) (cI := cI) (tb := tb) (a := a) (n := n) (Mod_thrown := Mod_thrown) (Mod_width := Mod_width) (Mod_height := Mod_height) (Mod_many := Mod_many) (Mod_size := u5.1) (Mod_bit := Mod_bit) (Mod_single := Mod_single) (Mod_runs := Mod_runs) (Mod_longest := Mod_longest) (mf := u5.2) (x1 := x1) h) tw510 tw512 tw20 tw42 tw513 1 (by decide) ⟨Nat.le_of_ble_eq_true rfl, Nat.le_of_ble_eq_true rfl⟩ ⟨Nat.le_of_ble_eq_true rfl, Nat.le_of_ble_eq_true rfl⟩ ⟨rfl, rfl⟩ rfl rfl 0 rfl [0, 1] [] [0, 1] rfl rfl rfl rfl (by decide) rfl (fun _ => rfl) hl.1 rfl rfl (Nat.le_of_ble_eq_true rfl) d_Mod_four_26 (fun u7 H locs h hw => ?_)
  exact retV (out := fun u => [e_Mod a Mod_thrown Mod_width Mod_height Mod_many u.1 Mod_bit Mod_single Mod_runs Mod_longest, e_ar a n cI 17 u.2]) (u := (u7.1, u7.2)) E hr hlk hw h d_Mod_four_29
-- PicturePackerModel.name(IIII)V
theorem d_Mod_name_0 : decode prog_9_method_14_code 0 = .ok (.aload_n 0, 1) := by decide +kernel
theorem d_Mod_name_1 : decode prog_9_method_14_code 1 = .ok (.iload_n 1, 1) := by decide +kernel
theorem d_Mod_name_2 : decode prog_9_method_14_code 2 = .ok (.invokevirtual 54, 3) := by decide +kernel
theorem d_Mod_name_5 : decode prog_9_method_14_code 5 = .ok (.aload_n 0, 1) := by decide +kernel
theorem d_Mod_name_6 : decode prog_9_method_14_code 6 = .ok (.iload_n 2, 1) := by decide +kernel
theorem d_Mod_name_7 : decode prog_9_method_14_code 7 = .ok (.invokevirtual 54, 3) := by decide +kernel
theorem d_Mod_name_10 : decode prog_9_method_14_code 10 = .ok (.aload_n 0, 1) := by decide +kernel
theorem d_Mod_name_11 : decode prog_9_method_14_code 11 = .ok (.iload_n 3, 1) := by decide +kernel
theorem d_Mod_name_12 : decode prog_9_method_14_code 12 = .ok (.invokevirtual 54, 3) := by decide +kernel
theorem d_Mod_name_15 : decode prog_9_method_14_code 15 = .ok (.aload_n 0, 1) := by decide +kernel
theorem d_Mod_name_16 : decode prog_9_method_14_code 16 = .ok (.iload 4, 2) := by decide +kernel
theorem d_Mod_name_18 : decode prog_9_method_14_code 18 = .ok (.invokevirtual 54, 3) := by decide +kernel
theorem d_Mod_name_21 : decode prog_9_method_14_code 21 = .ok (.return_, 1) := by decide +kernel
abbrev y_Mod_name : MethodName := ⟨"PicturePackerModel", "name", "(IIII)V"⟩
def wp_Mod_name (n : Nat → Nat) (Mod_size : Int32) (mf : Nat → Int32) (x1 : Int32) (x2 : Int32) (x3 : Int32) (x4 : Int32) (post : Int32 × (Nat → Int32) → Prop) : Prop := wp_Mod_one n Mod_size mf x1 (fun u1 => wp_Mod_one n u1.1 u1.2 x2 (fun u3 => wp_Mod_one n u3.1 u3.2 x3 (fun u5 => wp_Mod_one n u5.1 u5.2 x4 (fun u7 => post (u7.1, u7.2)))))
set_option maxHeartbeats 2000000 in
set_option maxRecDepth 20000 in
theorem c_Mod_name {l : Launch} {dC : Nat → ClassId} {dI : Nat → Nat → Nat} {cI : ClassId} {tb : Tbs} {a n : Nat → Nat} {Mod_thrown : Int32} {Mod_width : Int32} {Mod_height : Int32} {Mod_many : Int32} {Mod_size : Int32} {Mod_bit : Int32} {Mod_single : Int32} {Mod_runs : Int32} {Mod_longest : Int32} {mf : Nat → Int32} {x1 : Int32} {x2 : Int32} {x3 : Int32} {x4 : Int32} {post : Int32 × (Nat → Int32) → Prop} (h : wp_Mod_name n Mod_size mf x1 x2 x3 x4 post) : CtV classes dC dI cI tb l y_Mod_name prog_9_method_14_code 5 ({ frames := 1, cells := 0, slots := 0, locals := 21 }) [.ref (a 7), .int x1, .int x2, .int x3, .int x4] [e_Mod a Mod_thrown Mod_width Mod_height Mod_many Mod_size Mod_bit Mod_single Mod_runs Mod_longest, e_ar a n cI 17 mf] (Int32 × (Nat → Int32)) (fun u => [e_Mod a Mod_thrown Mod_width Mod_height Mod_many u.1 Mod_bit Mod_single Mod_runs Mod_longest, e_ar a n cI 17 u.2]) post := by
  refine startV (by decide) (Nat.le_of_ble_eq_true rfl) ?_
  intro p e s m below meth c ls E hr hlk hnm hl hw
  have hl : lv_has ls 5 [(0, .ref (a 7)), (1, .int x1), (2, .int x2), (3, .int x3), (4, .int x4)] := hl
  generalize va_A [e_Mod a Mod_thrown Mod_width Mod_height Mod_many Mod_size Mod_bit Mod_single Mod_runs Mod_longest, e_ar a n cI 17 mf] s.heap.size = A at hw ⊢
  obtain ⟨hx, hb, hml, hown, hts⟩ := id E
  unfold wp_Mod_name at h
  refine lv_aload_n hx hb d_Mod_name_0 rfl (lv_at hl 0 rfl) ?_
  refine lv_iload_n hx hb d_Mod_name_1 rfl (lv_at hl 1 rfl) ?_
  refine kVv (y := y_Mod_one) (ws' := fun u1 => [e_Mod a Mod_thrown Mod_width Mod_height Mod_many u1.1 Mod_bit Mod_single Mod_runs Mod_longest, e_ar a n cI 17 u1.2]) (wr := []) (As := [.int x1]) (rest := []) E hw (c_Mod_one (l := l) (dC := dC) (dI := dI) (cI := cI) (tb := tb) (a := a) (n := n) (Mod_thrown := Mod_thrown) (Mod_width := Mod_width) (Mod_height := Mod_height) (Mod_many := Mod_many) (Mod_size := Mod_size) (Mod_bit := Mod_bit) (Mod_single := Mod_single) (Mod_runs := Mod_runs) (Mod_longest := Mod_longest) (mf := mf) (x1 := x1) h) tw510 tw512 tw20 tw42 tw513 1 (by decide) ⟨Nat.le_of_ble_eq_true rfl, Nat.le_of_ble_eq_true rfl⟩ ⟨Nat.le_of_ble_eq_true rfl, Nat.le_of_ble_eq_true rfl⟩ ⟨rfl, rfl⟩ rfl rfl 0 rfl [0, 1] [] [0, 1] rfl rfl rfl rfl (by decide) rfl (fun _ => rfl) hl.1 rfl rfl (Nat.le_of_ble_eq_true rfl) d_Mod_name_2 (fun u1 H locs h hw => ?_)
  refine lv_aload_n hx hb d_Mod_name_5 rfl (lv_at hl 0 rfl) ?_
  refine lv_iload_n hx hb d_Mod_name_6 rfl (lv_at hl 2 rfl) ?_
  refine kVv (y := y_Mod_one) (ws' := fun u3 => [e_Mod a Mod_thrown Mod_width Mod_height Mod_many u3.1 Mod_bit Mod_single Mod_runs Mod_longest, e_ar a n cI 17 u3.2]) (wr := []) (As := [.int x2]) (rest := []) E hw (c_Mod_one (l := l) (dC := dC) (dI := dI) (cI := cI) (tb := tb) (a := a) (n := n) (Mod_thrown := Mod_thrown) (Mod_width := Mod_width) (Mod_height := Mod_height) (Mod_many := Mod_many) (Mod_size := u1.1) (Mod_bit := Mod_bit) (Mod_single := Mod_single) (Mod_runs := Mod_runs) (Mod_longest := Mod_longest) (mf := u1.2) (x1 := x2) h) tw510 tw512 tw20 tw42 tw513 1 (by decide) ⟨Nat.le_of_ble_eq_true rfl, Nat.le_of_ble_eq_true rfl⟩ ⟨Nat.le_of_ble_eq_true rfl, Nat.le_of_ble_eq_true rfl⟩ ⟨rfl, rfl⟩ rfl rfl 0 rfl [0, 1] [] [0, 1] rfl rfl rfl rfl (by decide) rfl (fun _ => rfl) hl.1 rfl rfl (Nat.le_of_ble_eq_true rfl) d_Mod_name_7 (fun u3 H locs h hw => ?_)
  refine lv_aload_n hx hb d_Mod_name_10 rfl (lv_at hl 0 rfl) ?_
  refine lv_iload_n hx hb d_Mod_name_11 rfl (lv_at hl 3 rfl) ?_
  refine kVv (y := y_Mod_one) (ws' := fun u5 => [e_Mod a Mod_thrown Mod_width Mod_height Mod_many u5.1 Mod_bit Mod_single Mod_runs Mod_longest, e_ar a n cI 17 u5.2]) (wr := []) (As := [.int x3]) (rest := []) E hw (c_Mod_one (l := l) (dC := dC) (dI := dI) (cI := cI) (tb := tb) (a := a) (n := n) (Mod_thrown := Mod_thrown) (Mod_width := Mod_width) (Mod_height := Mod_height) (Mod_many := Mod_many) (Mod_size := u3.1) (Mod_bit := Mod_bit) (Mod_single := Mod_single) (Mod_runs := Mod_runs) (Mod_longest := Mod_longest) (mf := u3.2) (x1 := x3) h) tw510 tw512 tw20 tw42 tw513 1 (by decide) ⟨Nat.le_of_ble_eq_true rfl, Nat.le_of_ble_eq_true rfl⟩ ⟨Nat.le_of_ble_eq_true rfl, Nat.le_of_ble_eq_true rfl⟩ ⟨rfl, rfl⟩ rfl rfl 0 rfl [0, 1] [] [0, 1] rfl rfl rfl rfl (by decide) rfl (fun _ => rfl) hl.1 rfl rfl (Nat.le_of_ble_eq_true rfl) d_Mod_name_12 (fun u5 H locs h hw => ?_)
  refine lv_aload_n hx hb d_Mod_name_15 rfl (lv_at hl 0 rfl) ?_
  refine lv_iload hx hb d_Mod_name_16 (lv_at hl 4 rfl) ?_
  refine kVv (y := y_Mod_one) (ws' := fun u7 => [e_Mod a Mod_thrown Mod_width Mod_height Mod_many u7.1 Mod_bit Mod_single Mod_runs Mod_longest, e_ar a n cI 17 u7.2]) (wr := []) (As := [.int x4]) (rest := []) E hw (c_Mod_one (l := l) (dC := dC) (dI := dI) (cI := cI) (tb := tb) (a := a) (n := n) (Mod_thrown := Mod_thrown) (Mod_width := Mod_width) (Mod_height := Mod_height) (Mod_many := Mod_many) (Mod_size := u5.1) (Mod_bit := Mod_bit) (Mod_single := Mod_single) (Mod_runs := Mod_runs) (Mod_longest := Mod_longest) (mf := u5.2) (x1 := x4) h) tw510 tw512 tw20 tw42 tw513 1 (by decide) ⟨Nat.le_of_ble_eq_true rfl, Nat.le_of_ble_eq_true rfl⟩ ⟨Nat.le_of_ble_eq_true rfl, Nat.le_of_ble_eq_true rfl⟩ ⟨rfl, rfl⟩ rfl rfl 0 rfl [0, 1] [] [0, 1] rfl rfl rfl rfl (by decide) rfl (fun _ => rfl) hl.1 rfl rfl (Nat.le_of_ble_eq_true rfl) d_Mod_name_18 (fun u7 H locs h hw => ?_)
  exact retV (out := fun u => [e_Mod a Mod_thrown Mod_width Mod_height Mod_many u.1 Mod_bit Mod_single Mod_runs Mod_longest, e_ar a n cI 17 u.2]) (u := (u7.1, u7.2)) E hr hlk hw h d_Mod_name_21
-- PicturePackerModel.check(I)V
theorem d_Mod_check_0 : decode prog_9_method_15_code 0 = .ok (.iconst (-1), 1) := by decide +kernel
theorem d_Mod_check_1 : decode prog_9_method_15_code 1 = .ok (.istore_n 2, 1) := by decide +kernel
theorem d_Mod_check_2 : decode prog_9_method_15_code 2 = .ok (.iload_n 1, 1) := by decide +kernel
theorem d_Mod_check_3 : decode prog_9_method_15_code 3 = .ok (.istore_n 3, 1) := by decide +kernel
theorem d_Mod_check_4 : decode prog_9_method_15_code 4 = .ok (.iload_n 3, 1) := by decide +kernel
theorem d_Mod_check_5 : decode prog_9_method_15_code 5 = .ok (.aload_n 0, 1) := by decide +kernel
theorem d_Mod_check_6 : decode prog_9_method_15_code 6 = .ok (.getfield 51, 3) := by decide +kernel
theorem d_Mod_check_9 : decode prog_9_method_15_code 9 = .ok (.if_icmp .ge 58, 3) := by decide +kernel
theorem d_Mod_check_12 : decode prog_9_method_15_code 12 = .ok (.iload_n 2, 1) := by decide +kernel
theorem d_Mod_check_13 : decode prog_9_method_15_code 13 = .ok (.aload_n 0, 1) := by decide +kernel
theorem d_Mod_check_14 : decode prog_9_method_15_code 14 = .ok (.getfield 16, 3) := by decide +kernel
theorem d_Mod_check_17 : decode prog_9_method_15_code 17 = .ok (.iload_n 3, 1) := by decide +kernel
theorem d_Mod_check_18 : decode prog_9_method_15_code 18 = .ok (.iaload, 1) := by decide +kernel
theorem d_Mod_check_19 : decode prog_9_method_15_code 19 = .ok (.ixor, 1) := by decide +kernel
theorem d_Mod_check_20 : decode prog_9_method_15_code 20 = .ok (.istore_n 2, 1) := by decide +kernel
theorem d_Mod_check_21 : decode prog_9_method_15_code 21 = .ok (.iconst 0, 1) := by decide +kernel
theorem d_Mod_check_22 : decode prog_9_method_15_code 22 = .ok (.istore 4, 2) := by decide +kernel
theorem d_Mod_check_24 : decode prog_9_method_15_code 24 = .ok (.iload 4, 2) := by decide +kernel
theorem d_Mod_check_26 : decode prog_9_method_15_code 26 = .ok (.bipush 8, 2) := by decide +kernel
theorem d_Mod_check_28 : decode prog_9_method_15_code 28 = .ok (.if_icmp .ge 33, 3) := by decide +kernel
theorem d_Mod_check_31 : decode prog_9_method_15_code 31 = .ok (.iload_n 2, 1) := by decide +kernel
theorem d_Mod_check_32 : decode prog_9_method_15_code 32 = .ok (.iconst 1, 1) := by decide +kernel
theorem d_Mod_check_33 : decode prog_9_method_15_code 33 = .ok (.iand, 1) := by decide +kernel
theorem d_Mod_check_34 : decode prog_9_method_15_code 34 = .ok (.istore 5, 2) := by decide +kernel
theorem d_Mod_check_36 : decode prog_9_method_15_code 36 = .ok (.iload_n 2, 1) := by decide +kernel
theorem d_Mod_check_37 : decode prog_9_method_15_code 37 = .ok (.iconst 1, 1) := by decide +kernel
theorem d_Mod_check_38 : decode prog_9_method_15_code 38 = .ok (.iushr, 1) := by decide +kernel
theorem d_Mod_check_39 : decode prog_9_method_15_code 39 = .ok (.istore_n 2, 1) := by decide +kernel
theorem d_Mod_check_40 : decode prog_9_method_15_code 40 = .ok (.iload 5, 2) := by decide +kernel
theorem d_Mod_check_42 : decode prog_9_method_15_code 42 = .ok (.iconst 1, 1) := by decide +kernel
theorem d_Mod_check_43 : decode prog_9_method_15_code 43 = .ok (.if_icmp .ne 10, 3) := by decide +kernel
theorem d_Mod_check_46 : decode prog_9_method_15_code 46 = .ok (.iload_n 2, 1) := by decide +kernel
theorem d_Mod_check_47 : decode prog_9_method_15_code 47 = .ok (.ldc 58, 2) := by decide +kernel
theorem d_Mod_check_49 : decode prog_9_method_15_code 49 = .ok (.ixor, 1) := by decide +kernel
theorem d_Mod_check_50 : decode prog_9_method_15_code 50 = .ok (.goto 4, 3) := by decide +kernel
theorem d_Mod_check_53 : decode prog_9_method_15_code 53 = .ok (.iload_n 2, 1) := by decide +kernel
theorem d_Mod_check_54 : decode prog_9_method_15_code 54 = .ok (.istore_n 2, 1) := by decide +kernel
theorem d_Mod_check_55 : decode prog_9_method_15_code 55 = .ok (.iinc 4 1, 3) := by decide +kernel
theorem d_Mod_check_58 : decode prog_9_method_15_code 58 = .ok (.goto (-34), 3) := by decide +kernel
theorem d_Mod_check_61 : decode prog_9_method_15_code 61 = .ok (.iinc 3 1, 3) := by decide +kernel
theorem d_Mod_check_64 : decode prog_9_method_15_code 64 = .ok (.goto (-60), 3) := by decide +kernel
theorem d_Mod_check_67 : decode prog_9_method_15_code 67 = .ok (.aload_n 0, 1) := by decide +kernel
theorem d_Mod_check_68 : decode prog_9_method_15_code 68 = .ok (.iload_n 2, 1) := by decide +kernel
theorem d_Mod_check_69 : decode prog_9_method_15_code 69 = .ok (.iconst (-1), 1) := by decide +kernel
theorem d_Mod_check_70 : decode prog_9_method_15_code 70 = .ok (.ixor, 1) := by decide +kernel
theorem d_Mod_check_71 : decode prog_9_method_15_code 71 = .ok (.invokevirtual 59, 3) := by decide +kernel
theorem d_Mod_check_74 : decode prog_9_method_15_code 74 = .ok (.return_, 1) := by decide +kernel
abbrev y_Mod_check : MethodName := ⟨"PicturePackerModel", "check", "(I)V"⟩
def wp_Mod_check_24 (n : Nat → Nat) (x1 : Int32) (post : Int32 × (Nat → Int32) → Prop) (k4 : Int32 → (Nat → Int32) → Int32 → Int32 → Prop) : Nat → Int32 → (Nat → Int32) → Int32 → Int32 → Int32 → Prop
  | 0 => fun _ _ _ _ _ => False
  | N + 1 => fun Mod_size mf y2 y3 y4 => ((8 : Int32) ≤ y4 → (∀ z7 : Int32, z7 = (y3 + 1) → (k4 Mod_size mf y2 z7))) ∧ (¬ ((8 : Int32) ≤ y4) → (∀ z8 : Int32, z8 = (y2 &&& 1) → (∀ z9 : Int32, z9 = (((y2 : Int32).toUInt32 >>> ((1 : Int32).toUInt32 &&& Int32.toUInt32 31)).toInt32) → ((¬ (z8 : Int32) = 1 → (∀ z11 : Int32, z11 = (y4 + 1) → (wp_Mod_check_24 n x1 post k4 N Mod_size mf z9 y3 z11))) ∧ ((z8 : Int32) = 1 → (∀ z12 : Int32, z12 = (z9 ^^^ ((-306674912))) → (∀ z13 : Int32, z13 = (y4 + 1) → (wp_Mod_check_24 n x1 post k4 N Mod_size mf z12 y3 z13))))))))
def wp_Mod_check_4 (n : Nat → Nat) (x1 : Int32) (post : Int32 × (Nat → Int32) → Prop) : Nat → Int32 → (Nat → Int32) → Int32 → Int32 → Prop
  | 0 => fun _ _ _ _ => False
  | N + 1 => fun Mod_size mf y2 y3 => ((Mod_size : Int32) ≤ y3 → (wp_Mod_four n Mod_size mf (y2 ^^^ ((-1))) (fun u2 => post (u2.1, u2.2)))) ∧ (¬ ((Mod_size : Int32) ≤ y3) → (vp_in y3 (n 17) ∧ (∀ z5 : Int32, z5 = (y2 ^^^ (mf (y3 : Int32).toNatClampNeg)) → (∃ N14 : Nat, wp_Mod_check_24 n x1 post (wp_Mod_check_4 n x1 post N) N14 Mod_size mf z5 y3 0))))
def wp_Mod_check (n : Nat → Nat) (Mod_size : Int32) (mf : Nat → Int32) (x1 : Int32) (post : Int32 × (Nat → Int32) → Prop) : Prop := ∃ N15 : Nat, wp_Mod_check_4 n x1 post N15 Mod_size mf ((-1)) x1
set_option maxHeartbeats 2000000 in
set_option maxRecDepth 20000 in
theorem s_Mod_check_24 {l : Launch} {dC : Nat → ClassId} {dI : Nat → Nat → Nat} {cI : ClassId} {tb : Tbs} {a n : Nat → Nat} {p : Program} {e : Env} {s : State} {m : MethodId} {args : Array Value} {below : List Frame} {meth : Method} {c : Code} {A : Nat → Prop} (E : CallFix p m c prog_9_method_15_code 6 s args TBL "PicturePackerModel") (hr : meth.sig.returnType = none) (hlk : meth.locks = false) {Mod_thrown : Int32} {Mod_width : Int32} {Mod_height : Int32} {Mod_many : Int32} {Mod_bit : Int32} {Mod_single : Int32} {Mod_runs : Int32} {Mod_longest : Int32} {x1 : Int32} {post : Int32 × (Nat → Int32) → Prop} {k4 : Int32 → (Nat → Int32) → Int32 → Int32 → Prop} (hk4 : ∀ (Mod_size : Int32) (mf : Nat → Int32) (y2 : Int32) (y3 : Int32) (H : Heap) (locs : List Loc) (ls : Array Slot), Wl classes dC dI cI tb A s H locs [e_Mod a Mod_thrown Mod_width Mod_height Mod_many Mod_size Mod_bit Mod_single Mod_runs Mod_longest, e_ar a n cI 17 mf] → lv_has ls 6 [(0, .ref (a 7)), (2, .int y2), (3, .int y3)] → k4 Mod_size mf y2 y3 → W p l e ({ frames := 2, cells := 0, slots := 0, locals := 42 }) s m args below meth c H locs 0 0 (MQ below (va_Qv post (fun u => End0 classes dC dI cI A [e_Mod a Mod_thrown Mod_width Mod_height Mod_many u.1 Mod_bit Mod_single Mod_runs Mod_longest, e_ar a n cI 17 u.2]) A) args s 0 0 A) (F0 m 4 ls [])) : ∀ (N : Nat) (Mod_size : Int32) (mf : Nat → Int32) (y2 : Int32) (y3 : Int32) (y4 : Int32) (H : Heap) (locs : List Loc) (ls : Array Slot), Wl classes dC dI cI tb A s H locs [e_Mod a Mod_thrown Mod_width Mod_height Mod_many Mod_size Mod_bit Mod_single Mod_runs Mod_longest, e_ar a n cI 17 mf] → lv_has ls 6 [(0, .ref (a 7)), (2, .int y2), (3, .int y3), (4, .int y4)] → wp_Mod_check_24 n x1 post k4 N Mod_size mf y2 y3 y4 → W p l e ({ frames := 2, cells := 0, slots := 0, locals := 42 }) s m args below meth c H locs 0 0 (MQ below (va_Qv post (fun u => End0 classes dC dI cI A [e_Mod a Mod_thrown Mod_width Mod_height Mod_many u.1 Mod_bit Mod_single Mod_runs Mod_longest, e_ar a n cI 17 u.2]) A) args s 0 0 A) (F0 m 24 ls []) := by
  obtain ⟨hx, hb, hml, hown, hts⟩ := id E
  intro N
  induction N with
  | zero =>
    intro _ _ _ _ _ H locs ls hw hl h
    exact absurd h id
  | succ N ih =>
    intro Mod_size mf y2 y3 y4 H locs ls hw hl h
    unfold wp_Mod_check_24 at h
    refine lv_iload hx hb d_Mod_check_24 (lv_at hl 3 rfl) ?_
    refine lv_bipush (v := 8) hx hb d_Mod_check_26 (by decide) ?_
    refine lv_icmp_ge (tgt := 61) hx hb d_Mod_check_28 (by decide) (fun c6 => ?_) (fun c6 => ?_)
    · have h := h.1 c6
      obtain ⟨z7, ez7⟩ : ∃ z : Int32, z = y3 + 1 := ⟨_, rfl⟩
      have h := h z7 ez7
      refine lv_iinc (v := z7) (lv' := [(3, .int z7), (0, .ref (a 7)), (2, .int y2), (4, .int y4)]) hx hb d_Mod_check_61 hl (k := 2) rfl (by rw [ez7]; exact congrArg (y3 + ·) (by decide)) (by decide) rfl (fun ls hl => ?_)
      refine lv_goto (tgt := 4) hx hb d_Mod_check_64 (by decide) ?_
      exact hk4 Mod_size mf y2 z7 _ _ ls hw (lv_sub hl [1, 2, 0] rfl) h
    · have h := h.2 c6
      refine lv_iload_n hx hb d_Mod_check_31 rfl (lv_at hl 1 rfl) ?_
      refine lv_iconst (v := 1) hx hb d_Mod_check_32 (by decide) ?_
      refine lv_iand hx hb d_Mod_check_33 ?_
      refine lv_topi (fun z8 ez8 => ?_)
      have h := h z8 ez8
      refine lv_istore (lv' := [(5, .int z8), (0, .ref (a 7)), (2, .int y2), (3, .int y3), (4, .int y4)]) hx hb d_Mod_check_34 hl (by decide) rfl (fun ls hl => ?_)
      refine lv_iload_n hx hb d_Mod_check_36 rfl (lv_at hl 2 rfl) ?_
      refine lv_iconst (v := 1) hx hb d_Mod_check_37 (by decide) ?_
      refine lv_iushr (v := ((y2 : Int32).toUInt32 >>> ((1 : Int32).toUInt32 &&& Int32.toUInt32 31)).toInt32) hx hb d_Mod_check_38 rfl ?_
      refine lv_topi (fun z9 ez9 => ?_)
      have h := h z9 ez9
      refine lv_istore_n (lv' := [(2, .int z9), (5, .int z8), (0, .ref (a 7)), (3, .int y3), (4, .int y4)]) hx hb d_Mod_check_39 rfl hl (by decide) rfl (fun ls hl => ?_)
      refine lv_iload hx hb d_Mod_check_40 (lv_at hl 1 rfl) ?_
      refine lv_iconst (v := 1) hx hb d_Mod_check_42 (by decide) ?_
      refine lv_icmp_ne (tgt := 53) hx hb d_Mod_check_43 (by decide) (fun c10 => ?_) (fun c10 => ?_)
      · have h := h.1 c10
        refine lv_iload_n hx hb d_Mod_check_53 rfl (lv_at hl 0 rfl) ?_
        refine lv_istore_n (lv' := [(2, .int z9), (5, .int z8), (0, .ref (a 7)), (3, .int y3), (4, .int y4)]) hx hb d_Mod_check_54 rfl hl (by decide) rfl (fun ls hl => ?_)
        obtain ⟨z11, ez11⟩ : ∃ z : Int32, z = y4 + 1 := ⟨_, rfl⟩
        have h := h z11 ez11
        refine lv_iinc (v := z11) (lv' := [(4, .int z11), (2, .int z9), (5, .int z8), (0, .ref (a 7)), (3, .int y3)]) hx hb d_Mod_check_55 hl (k := 4) rfl (by rw [ez11]; exact congrArg (y4 + ·) (by decide)) (by decide) rfl (fun ls hl => ?_)
        refine lv_goto (tgt := 24) hx hb d_Mod_check_58 (by decide) ?_
        exact ih Mod_size mf z9 y3 z11 _ _ ls hw (lv_sub hl [3, 1, 4, 0] rfl) h
      · have h := h.2 c10
        refine lv_iload_n hx hb d_Mod_check_46 rfl (lv_at hl 0 rfl) ?_
        refine lv_ldc (v := (-306674912)) hx hb hown (hts _ tw522) d_Mod_check_47 ?_
        refine lv_ixor hx hb d_Mod_check_49 ?_
        refine lv_goto (tgt := 54) hx hb d_Mod_check_50 (by decide) ?_
        refine lv_topi (fun z12 ez12 => ?_)
        have h := h z12 ez12
        refine lv_istore_n (lv' := [(2, .int z12), (5, .int z8), (0, .ref (a 7)), (3, .int y3), (4, .int y4)]) hx hb d_Mod_check_54 rfl hl (by decide) rfl (fun ls hl => ?_)
        obtain ⟨z13, ez13⟩ : ∃ z : Int32, z = y4 + 1 := ⟨_, rfl⟩
        have h := h z13 ez13
        refine lv_iinc (v := z13) (lv' := [(4, .int z13), (2, .int z12), (5, .int z8), (0, .ref (a 7)), (3, .int y3)]) hx hb d_Mod_check_55 hl (k := 4) rfl (by rw [ez13]; exact congrArg (y4 + ·) (by decide)) (by decide) rfl (fun ls hl => ?_)
        refine lv_goto (tgt := 24) hx hb d_Mod_check_58 (by decide) ?_
        exact ih Mod_size mf z12 y3 z13 _ _ ls hw (lv_sub hl [3, 1, 4, 0] rfl) h
set_option maxHeartbeats 2000000 in
set_option maxRecDepth 20000 in
theorem s_Mod_check_4 {l : Launch} {dC : Nat → ClassId} {dI : Nat → Nat → Nat} {cI : ClassId} {tb : Tbs} {a n : Nat → Nat} {p : Program} {e : Env} {s : State} {m : MethodId} {args : Array Value} {below : List Frame} {meth : Method} {c : Code} {A : Nat → Prop} (E : CallFix p m c prog_9_method_15_code 6 s args TBL "PicturePackerModel") (hr : meth.sig.returnType = none) (hlk : meth.locks = false) {Mod_thrown : Int32} {Mod_width : Int32} {Mod_height : Int32} {Mod_many : Int32} {Mod_bit : Int32} {Mod_single : Int32} {Mod_runs : Int32} {Mod_longest : Int32} {x1 : Int32} {post : Int32 × (Nat → Int32) → Prop} : ∀ (N : Nat) (Mod_size : Int32) (mf : Nat → Int32) (y2 : Int32) (y3 : Int32) (H : Heap) (locs : List Loc) (ls : Array Slot), Wl classes dC dI cI tb A s H locs [e_Mod a Mod_thrown Mod_width Mod_height Mod_many Mod_size Mod_bit Mod_single Mod_runs Mod_longest, e_ar a n cI 17 mf] → lv_has ls 6 [(0, .ref (a 7)), (2, .int y2), (3, .int y3)] → wp_Mod_check_4 n x1 post N Mod_size mf y2 y3 → W p l e ({ frames := 2, cells := 0, slots := 0, locals := 42 }) s m args below meth c H locs 0 0 (MQ below (va_Qv post (fun u => End0 classes dC dI cI A [e_Mod a Mod_thrown Mod_width Mod_height Mod_many u.1 Mod_bit Mod_single Mod_runs Mod_longest, e_ar a n cI 17 u.2]) A) args s 0 0 A) (F0 m 4 ls []) := by
  obtain ⟨hx, hb, hml, hown, hts⟩ := id E
  intro N
  induction N with
  | zero =>
    intro _ _ _ _ H locs ls hw hl h
    exact absurd h id
  | succ N ih =>
    intro Mod_size mf y2 y3 H locs ls hw hl h
    unfold wp_Mod_check_4 at h
    refine lv_iload_n hx hb d_Mod_check_4 rfl (lv_at hl 2 rfl) ?_
    refine lv_aload_n hx hb d_Mod_check_5 rfl (lv_at hl 0 rfl) ?_
    refine kget (v := .int Mod_size) (T := F_Mod) E hw in_Mod rfl 0 7 rfl (by decide) tw436 rfl d_Mod_check_6 ?_
    refine lv_icmp_ge (tgt := 67) hx hb d_Mod_check_9 (by decide) (fun c1 => ?_) (fun c1 => ?_)
    · have h := h.1 c1
      refine lv_aload_n hx hb d_Mod_check_67 rfl (lv_at hl 0 rfl) ?_
      refine lv_iload_n hx hb d_Mod_check_68 rfl (lv_at hl 1 rfl) ?_
      refine lv_iconst (v := (-1)) hx hb d_Mod_check_69 (by decide) ?_
      refine lv_ixor hx hb d_Mod_check_70 ?_
      refine kVv (y := y_Mod_four) (ws' := fun u2 => [e_Mod a Mod_thrown Mod_width Mod_height Mod_many u2.1 Mod_bit Mod_single Mod_runs Mod_longest, e_ar a n cI 17 u2.2]) (wr := []) (As := [.int (y2 ^^^ ((-1)))]) (rest := []) E hw (c_Mod_four (l := l) (dC := dC) (dI := dI) (cI := cI) (tb := tb) (a := a) (n := n) (Mod_thrown := Mod_thrown) (Mod_width := Mod_width) (Mod_height := Mod_height) (Mod_many := Mod_many) (Mod_size := Mod_size) (Mod_bit := Mod_bit) (Mod_single := Mod_single) (Mod_runs := Mod_runs) (Mod_longest := Mod_longest) (mf := mf) (x1 := y2 ^^^ ((-1))) h) tw514 tw516 tw21 tw42 tw517 1 (by decide) ⟨Nat.le_of_ble_eq_true rfl, Nat.le_of_ble_eq_true rfl⟩ ⟨Nat.le_of_ble_eq_true rfl, Nat.le_of_ble_eq_true rfl⟩ ⟨rfl, rfl⟩ rfl rfl 0 rfl [0, 1] [] [0, 1] rfl rfl rfl rfl (by decide) rfl (fun _ => rfl) hl.1 rfl rfl (Nat.le_of_ble_eq_true rfl) d_Mod_check_71 (fun u2 H locs h hw => ?_)
      exact retV (out := fun u => [e_Mod a Mod_thrown Mod_width Mod_height Mod_many u.1 Mod_bit Mod_single Mod_runs Mod_longest, e_ar a n cI 17 u.2]) (u := (u2.1, u2.2)) E hr hlk hw h d_Mod_check_74
    · have h := h.2 c1
      refine lv_iload_n hx hb d_Mod_check_12 rfl (lv_at hl 1 rfl) ?_
      refine lv_aload_n hx hb d_Mod_check_13 rfl (lv_at hl 0 rfl) ?_
      refine kget (v := .ref (a 17)) (T := F_Mod) E hw in_Mod rfl 0 6 rfl (by decide) tw435 rfl d_Mod_check_14 ?_
      refine lv_iload_n hx hb d_Mod_check_17 rfl (lv_at hl 2 rfl) ?_
      obtain ⟨b4, h⟩ := h
      refine kald E hw 1 rfl b4 d_Mod_check_18 ?_
      refine lv_ixor hx hb d_Mod_check_19 ?_
      refine lv_topi (fun z5 ez5 => ?_)
      have h := h z5 ez5
      refine lv_istore_n (lv' := [(2, .int z5), (0, .ref (a 7)), (3, .int y3)]) hx hb d_Mod_check_20 rfl hl (by decide) rfl (fun ls hl => ?_)
      refine lv_iconst (v := 0) hx hb d_Mod_check_21 (by decide) ?_
      refine lv_istore (lv' := [(4, .int 0), (2, .int z5), (0, .ref (a 7)), (3, .int y3)]) hx hb d_Mod_check_22 hl (by decide) rfl (fun ls hl => ?_)
      obtain ⟨N14, h⟩ := h
      exact s_Mod_check_24 (a := a) (n := n) (tb := tb) E hr hlk ih N14 Mod_size mf z5 y3 0 _ _ ls hw (lv_sub hl [2, 1, 3, 0] rfl) h
set_option maxHeartbeats 2000000 in
set_option maxRecDepth 20000 in
theorem c_Mod_check {l : Launch} {dC : Nat → ClassId} {dI : Nat → Nat → Nat} {cI : ClassId} {tb : Tbs} {a n : Nat → Nat} {Mod_thrown : Int32} {Mod_width : Int32} {Mod_height : Int32} {Mod_many : Int32} {Mod_size : Int32} {Mod_bit : Int32} {Mod_single : Int32} {Mod_runs : Int32} {Mod_longest : Int32} {mf : Nat → Int32} {x1 : Int32} {post : Int32 × (Nat → Int32) → Prop} (h : wp_Mod_check n Mod_size mf x1 post) : CtV classes dC dI cI tb l y_Mod_check prog_9_method_15_code 6 ({ frames := 2, cells := 0, slots := 0, locals := 42 }) [.ref (a 7), .int x1] [e_Mod a Mod_thrown Mod_width Mod_height Mod_many Mod_size Mod_bit Mod_single Mod_runs Mod_longest, e_ar a n cI 17 mf] (Int32 × (Nat → Int32)) (fun u => [e_Mod a Mod_thrown Mod_width Mod_height Mod_many u.1 Mod_bit Mod_single Mod_runs Mod_longest, e_ar a n cI 17 u.2]) post := by
  refine startV (by decide) (Nat.le_of_ble_eq_true rfl) ?_
  intro p e s m below meth c ls E hr hlk hnm hl hw
  have hl : lv_has ls 6 [(0, .ref (a 7)), (1, .int x1)] := hl
  generalize va_A [e_Mod a Mod_thrown Mod_width Mod_height Mod_many Mod_size Mod_bit Mod_single Mod_runs Mod_longest, e_ar a n cI 17 mf] s.heap.size = A at hw ⊢
  obtain ⟨hx, hb, hml, hown, hts⟩ := id E
  unfold wp_Mod_check at h
  refine lv_iconst (v := (-1)) hx hb d_Mod_check_0 (by decide) ?_
  refine lv_istore_n (lv' := [(2, .int ((-1))), (0, .ref (a 7)), (1, .int x1)]) hx hb d_Mod_check_1 rfl hl (by decide) rfl (fun ls hl => ?_)
  refine lv_iload_n hx hb d_Mod_check_2 rfl (lv_at hl 2 rfl) ?_
  refine lv_istore_n (lv' := [(3, .int x1), (2, .int ((-1))), (0, .ref (a 7)), (1, .int x1)]) hx hb d_Mod_check_3 rfl hl (by decide) rfl (fun ls hl => ?_)
  obtain ⟨N15, h⟩ := h
  exact s_Mod_check_4 (a := a) (n := n) (tb := tb) E hr hlk  N15 Mod_size mf ((-1)) x1 _ _ ls hw (lv_sub hl [2, 1, 0] rfl) h
-- PicturePackerModel.next(I)V
theorem d_Mod_next_0 : decode prog_9_method_16_code 0 = .ok (.aload_n 0, 1) := by decide +kernel
theorem d_Mod_next_1 : decode prog_9_method_16_code 1 = .ok (.getfield 62, 3) := by decide +kernel
theorem d_Mod_next_4 : decode prog_9_method_16_code 4 = .ok (.ifCond .ne 8, 3) := by decide +kernel
theorem d_Mod_next_7 : decode prog_9_method_16_code 7 = .ok (.aload_n 0, 1) := by decide +kernel
theorem d_Mod_next_8 : decode prog_9_method_16_code 8 = .ok (.iconst 0, 1) := by decide +kernel
theorem d_Mod_next_9 : decode prog_9_method_16_code 9 = .ok (.invokevirtual 54, 3) := by decide +kernel
theorem d_Mod_next_12 : decode prog_9_method_16_code 12 = .ok (.aload_n 0, 1) := by decide +kernel
theorem d_Mod_next_13 : decode prog_9_method_16_code 13 = .ok (.getfield 16, 3) := by decide +kernel
theorem d_Mod_next_16 : decode prog_9_method_16_code 16 = .ok (.aload_n 0, 1) := by decide +kernel
theorem d_Mod_next_17 : decode prog_9_method_16_code 17 = .ok (.getfield 51, 3) := by decide +kernel
theorem d_Mod_next_20 : decode prog_9_method_16_code 20 = .ok (.iconst 1, 1) := by decide +kernel
theorem d_Mod_next_21 : decode prog_9_method_16_code 21 = .ok (.isub, 1) := by decide +kernel
theorem d_Mod_next_22 : decode prog_9_method_16_code 22 = .ok (.dup2, 1) := by decide +kernel
theorem d_Mod_next_23 : decode prog_9_method_16_code 23 = .ok (.iaload, 1) := by decide +kernel
theorem d_Mod_next_24 : decode prog_9_method_16_code 24 = .ok (.iload_n 1, 1) := by decide +kernel
theorem d_Mod_next_25 : decode prog_9_method_16_code 25 = .ok (.aload_n 0, 1) := by decide +kernel
theorem d_Mod_next_26 : decode prog_9_method_16_code 26 = .ok (.getfield 62, 3) := by decide +kernel
theorem d_Mod_next_29 : decode prog_9_method_16_code 29 = .ok (.ishl, 1) := by decide +kernel
theorem d_Mod_next_30 : decode prog_9_method_16_code 30 = .ok (.ior, 1) := by decide +kernel
theorem d_Mod_next_31 : decode prog_9_method_16_code 31 = .ok (.iastore, 1) := by decide +kernel
theorem d_Mod_next_32 : decode prog_9_method_16_code 32 = .ok (.aload_n 0, 1) := by decide +kernel
theorem d_Mod_next_33 : decode prog_9_method_16_code 33 = .ok (.aload_n 0, 1) := by decide +kernel
theorem d_Mod_next_34 : decode prog_9_method_16_code 34 = .ok (.getfield 62, 3) := by decide +kernel
theorem d_Mod_next_37 : decode prog_9_method_16_code 37 = .ok (.iconst 1, 1) := by decide +kernel
theorem d_Mod_next_38 : decode prog_9_method_16_code 38 = .ok (.iadd, 1) := by decide +kernel
theorem d_Mod_next_39 : decode prog_9_method_16_code 39 = .ok (.bipush 8, 2) := by decide +kernel
theorem d_Mod_next_41 : decode prog_9_method_16_code 41 = .ok (.irem, 1) := by decide +kernel
theorem d_Mod_next_42 : decode prog_9_method_16_code 42 = .ok (.putfield 62, 3) := by decide +kernel
theorem d_Mod_next_45 : decode prog_9_method_16_code 45 = .ok (.return_, 1) := by decide +kernel
abbrev y_Mod_next : MethodName := ⟨"PicturePackerModel", "next", "(I)V"⟩
def wp_Mod_next_12 (n : Nat → Nat) (x1 : Int32) (post : Int32 × Int32 × (Nat → Int32) → Prop) (Mod_size : Int32) (Mod_bit : Int32) (mf : Nat → Int32) : Prop := vp_in (Mod_size - 1) (n 17) ∧ (∀ z3 : Int32, z3 = ((mf (Mod_size - 1 : Int32).toNatClampNeg) ||| ((x1 : Int32) <<< (Mod_bit &&& 31))) → (vp_in (Mod_size - 1) (n 17) ∧ (∀ f5 : Nat → Int32, f5 = upd mf (Mod_size - 1 : Int32).toNatClampNeg z3 → (∀ z6 : Int32, z6 = ((Mod_bit + 1) - (Mod_bit + 1) / 8 * 8) → (post (Mod_size, z6, f5))))))
def wp_Mod_next (n : Nat → Nat) (Mod_size : Int32) (Mod_bit : Int32) (mf : Nat → Int32) (x1 : Int32) (post : Int32 × Int32 × (Nat → Int32) → Prop) : Prop := (¬ (Mod_bit : Int32) = 0 → (wp_Mod_next_12 n x1 post Mod_size Mod_bit mf)) ∧ ((Mod_bit : Int32) = 0 → (wp_Mod_one n Mod_size mf 0 (fun u7 => wp_Mod_next_12 n x1 post u7.1 Mod_bit u7.2)))
set_option maxHeartbeats 2000000 in
set_option maxRecDepth 20000 in
theorem s_Mod_next_12 {l : Launch} {dC : Nat → ClassId} {dI : Nat → Nat → Nat} {cI : ClassId} {tb : Tbs} {a n : Nat → Nat} {p : Program} {e : Env} {s : State} {m : MethodId} {args : Array Value} {below : List Frame} {meth : Method} {c : Code} {A : Nat → Prop} (E : CallFix p m c prog_9_method_16_code 2 s args TBL "PicturePackerModel") (hr : meth.sig.returnType = none) (hlk : meth.locks = false) {Mod_thrown : Int32} {Mod_width : Int32} {Mod_height : Int32} {Mod_many : Int32} {Mod_single : Int32} {Mod_runs : Int32} {Mod_longest : Int32} {x1 : Int32} {post : Int32 × Int32 × (Nat → Int32) → Prop} : ∀ (Mod_size : Int32) (Mod_bit : Int32) (mf : Nat → Int32) (H : Heap) (locs : List Loc) (ls : Array Slot), Wl classes dC dI cI tb A s H locs [e_Mod a Mod_thrown Mod_width Mod_height Mod_many Mod_size Mod_bit Mod_single Mod_runs Mod_longest, e_ar a n cI 17 mf] → lv_has ls 2 [(0, .ref (a 7)), (1, .int x1)] → wp_Mod_next_12 n x1 post Mod_size Mod_bit mf → W p l e ({ frames := 1, cells := 0, slots := 0, locals := 21 }) s m args below meth c H locs 0 0 (MQ below (va_Qv post (fun u => End0 classes dC dI cI A [e_Mod a Mod_thrown Mod_width Mod_height Mod_many u.1 u.2.1 Mod_single Mod_runs Mod_longest, e_ar a n cI 17 u.2.2]) A) args s 0 0 A) (F0 m 12 ls []) := by
  obtain ⟨hx, hb, hml, hown, hts⟩ := id E
  intro Mod_size Mod_bit mf H locs ls hw hl h
  unfold wp_Mod_next_12 at h
  refine lv_aload_n hx hb d_Mod_next_12 rfl (lv_at hl 0 rfl) ?_
  refine kget (v := .ref (a 17)) (T := F_Mod) E hw in_Mod rfl 0 6 rfl (by decide) tw435 rfl d_Mod_next_13 ?_
  refine lv_aload_n hx hb d_Mod_next_16 rfl (lv_at hl 0 rfl) ?_
  refine kget (v := .int Mod_size) (T := F_Mod) E hw in_Mod rfl 0 7 rfl (by decide) tw436 rfl d_Mod_next_17 ?_
  refine lv_iconst (v := 1) hx hb d_Mod_next_20 (by decide) ?_
  refine lv_isub hx hb d_Mod_next_21 ?_
  refine lv_dup2_11 hx hb d_Mod_next_22 rfl rfl ?_
  obtain ⟨b2, h⟩ := h
  refine kald E hw 1 rfl b2 d_Mod_next_23 ?_
  refine lv_iload_n hx hb d_Mod_next_24 rfl (lv_at hl 1 rfl) ?_
  refine lv_aload_n hx hb d_Mod_next_25 rfl (lv_at hl 0 rfl) ?_
  refine kget (v := .int Mod_bit) (T := F_Mod) E hw in_Mod rfl 0 8 rfl (by decide) tw437 rfl d_Mod_next_26 ?_
  refine lv_ishl hx hb d_Mod_next_29 ?_
  refine lv_ior hx hb d_Mod_next_30 ?_
  refine lv_topi (fun z3 ez3 => ?_)
  have h := h z3 ez3
  obtain ⟨b4, h⟩ := h
  obtain ⟨f5, ef5⟩ : ∃ z : Nat → Int32, z = upd mf (Mod_size - 1 : Int32).toNatClampNeg z3 := ⟨_, rfl⟩
  have h := h f5 ef5
  refine kast (ws' := [e_Mod a Mod_thrown Mod_width Mod_height Mod_many Mod_size Mod_bit Mod_single Mod_runs Mod_longest, e_ar a n cI 17 f5]) E hw 1 rfl b4 (by rw [ef5]; rfl) d_Mod_next_31 (fun H locs hw => ?_)
  refine lv_aload_n hx hb d_Mod_next_32 rfl (lv_at hl 0 rfl) ?_
  refine lv_aload_n hx hb d_Mod_next_33 rfl (lv_at hl 0 rfl) ?_
  refine kget (v := .int Mod_bit) (T := F_Mod) E hw in_Mod rfl 0 8 rfl (by decide) tw437 rfl d_Mod_next_34 ?_
  refine lv_iconst (v := 1) hx hb d_Mod_next_37 (by decide) ?_
  refine lv_iadd hx hb d_Mod_next_38 ?_
  refine lv_bipush (v := 8) hx hb d_Mod_next_39 (by decide) ?_
  refine lv_irem hx hb d_Mod_next_41 (by decide) ?_
  refine lv_topi (fun z6 ez6 => ?_)
  have h := h z6 ez6
  refine kput (v := .int z6) (ty := .int) (T := F_Mod) (ws' := [e_Mod a Mod_thrown Mod_width Mod_height Mod_many Mod_size z6 Mod_single Mod_runs Mod_longest, e_ar a n cI 17 f5]) E hw in_Mod t_Mod t_Mod_ok n_Mod rfl 0 8 rfl (by decide) tw437 rfl rfl rfl rfl (Nat.le_of_ble_eq_true rfl) rfl d_Mod_next_42 (fun H locs hw => ?_)
  exact retV (out := fun u => [e_Mod a Mod_thrown Mod_width Mod_height Mod_many u.1 u.2.1 Mod_single Mod_runs Mod_longest, e_ar a n cI 17 u.2.2]) (u := (Mod_size, z6, f5)) E hr hlk hw h d_Mod_next_45
set_option maxHeartbeats 2000000 in
set_option maxRecDepth 20000 in
theorem c_Mod_next {l : Launch} {dC : Nat → ClassId} {dI : Nat → Nat → Nat} {cI : ClassId} {tb : Tbs} {a n : Nat → Nat} {Mod_thrown : Int32} {Mod_width : Int32} {Mod_height : Int32} {Mod_many : Int32} {Mod_size : Int32} {Mod_bit : Int32} {Mod_single : Int32} {Mod_runs : Int32} {Mod_longest : Int32} {mf : Nat → Int32} {x1 : Int32} {post : Int32 × Int32 × (Nat → Int32) → Prop} (h : wp_Mod_next n Mod_size Mod_bit mf x1 post) : CtV classes dC dI cI tb l y_Mod_next prog_9_method_16_code 2 ({ frames := 1, cells := 0, slots := 0, locals := 21 }) [.ref (a 7), .int x1] [e_Mod a Mod_thrown Mod_width Mod_height Mod_many Mod_size Mod_bit Mod_single Mod_runs Mod_longest, e_ar a n cI 17 mf] (Int32 × Int32 × (Nat → Int32)) (fun u => [e_Mod a Mod_thrown Mod_width Mod_height Mod_many u.1 u.2.1 Mod_single Mod_runs Mod_longest, e_ar a n cI 17 u.2.2]) post := by
  refine startV (by decide) (Nat.le_of_ble_eq_true rfl) ?_
  intro p e s m below meth c ls E hr hlk hnm hl hw
  have hl : lv_has ls 2 [(0, .ref (a 7)), (1, .int x1)] := hl
  generalize va_A [e_Mod a Mod_thrown Mod_width Mod_height Mod_many Mod_size Mod_bit Mod_single Mod_runs Mod_longest, e_ar a n cI 17 mf] s.heap.size = A at hw ⊢
  obtain ⟨hx, hb, hml, hown, hts⟩ := id E
  unfold wp_Mod_next at h
  refine lv_aload_n hx hb d_Mod_next_0 rfl (lv_at hl 0 rfl) ?_
  refine kget (v := .int Mod_bit) (T := F_Mod) E hw in_Mod rfl 0 8 rfl (by decide) tw437 rfl d_Mod_next_1 ?_
  refine lv_if_ne (tgt := 12) hx hb d_Mod_next_4 (by decide) (fun c1 => ?_) (fun c1 => ?_)
  · have h := h.1 c1
    exact s_Mod_next_12 (a := a) (n := n) (tb := tb) E hr hlk  Mod_size Mod_bit mf _ _ ls hw (lv_sub hl [0, 1] rfl) h
  · have h := h.2 c1
    refine lv_aload_n hx hb d_Mod_next_7 rfl (lv_at hl 0 rfl) ?_
    refine lv_iconst (v := 0) hx hb d_Mod_next_8 (by decide) ?_
    refine kVv (y := y_Mod_one) (ws' := fun u7 => [e_Mod a Mod_thrown Mod_width Mod_height Mod_many u7.1 Mod_bit Mod_single Mod_runs Mod_longest, e_ar a n cI 17 u7.2]) (wr := []) (As := [.int 0]) (rest := []) E hw (c_Mod_one (l := l) (dC := dC) (dI := dI) (cI := cI) (tb := tb) (a := a) (n := n) (Mod_thrown := Mod_thrown) (Mod_width := Mod_width) (Mod_height := Mod_height) (Mod_many := Mod_many) (Mod_size := Mod_size) (Mod_bit := Mod_bit) (Mod_single := Mod_single) (Mod_runs := Mod_runs) (Mod_longest := Mod_longest) (mf := mf) (x1 := 0) h) tw510 tw512 tw20 tw42 tw513 1 (by decide) ⟨Nat.le_of_ble_eq_true rfl, Nat.le_of_ble_eq_true rfl⟩ ⟨Nat.le_of_ble_eq_true rfl, Nat.le_of_ble_eq_true rfl⟩ ⟨rfl, rfl⟩ rfl rfl 0 rfl [0, 1] [] [0, 1] rfl rfl rfl rfl (by decide) rfl (fun _ => rfl) hl.1 rfl rfl (Nat.le_of_ble_eq_true rfl) d_Mod_next_9 (fun u7 H locs h hw => ?_)
    exact s_Mod_next_12 (a := a) (n := n) (tb := tb) E hr hlk  u7.1 Mod_bit u7.2 _ _ ls hw (lv_sub hl [0, 1] rfl) h
-- PicturePackerModel.highest(II)V
theorem d_Mod_highest_0 : decode prog_9_method_17_code 0 = .ok (.iload_n 2, 1) := by decide +kernel
theorem d_Mod_highest_1 : decode prog_9_method_17_code 1 = .ok (.iconst 1, 1) := by decide +kernel
theorem d_Mod_highest_2 : decode prog_9_method_17_code 2 = .ok (.isub, 1) := by decide +kernel
theorem d_Mod_highest_3 : decode prog_9_method_17_code 3 = .ok (.istore_n 3, 1) := by decide +kernel
theorem d_Mod_highest_4 : decode prog_9_method_17_code 4 = .ok (.iload_n 3, 1) := by decide +kernel
theorem d_Mod_highest_5 : decode prog_9_method_17_code 5 = .ok (.ifCond .lt 18, 3) := by decide +kernel
theorem d_Mod_highest_8 : decode prog_9_method_17_code 8 = .ok (.aload_n 0, 1) := by decide +kernel
theorem d_Mod_highest_9 : decode prog_9_method_17_code 9 = .ok (.iload_n 1, 1) := by decide +kernel
theorem d_Mod_highest_10 : decode prog_9_method_17_code 10 = .ok (.iload_n 3, 1) := by decide +kernel
theorem d_Mod_highest_11 : decode prog_9_method_17_code 11 = .ok (.ishr, 1) := by decide +kernel
theorem d_Mod_highest_12 : decode prog_9_method_17_code 12 = .ok (.iconst 1, 1) := by decide +kernel
theorem d_Mod_highest_13 : decode prog_9_method_17_code 13 = .ok (.iand, 1) := by decide +kernel
theorem d_Mod_highest_14 : decode prog_9_method_17_code 14 = .ok (.invokevirtual 65, 3) := by decide +kernel
theorem d_Mod_highest_17 : decode prog_9_method_17_code 17 = .ok (.iinc 3 (-1), 3) := by decide +kernel
theorem d_Mod_highest_20 : decode prog_9_method_17_code 20 = .ok (.goto (-16), 3) := by decide +kernel
theorem d_Mod_highest_23 : decode prog_9_method_17_code 23 = .ok (.return_, 1) := by decide +kernel
abbrev y_Mod_highest : MethodName := ⟨"PicturePackerModel", "highest", "(II)V"⟩
def wp_Mod_highest_4 (n : Nat → Nat) (x1 : Int32) (x2 : Int32) (post : Int32 × Int32 × (Nat → Int32) → Prop) : Nat → Int32 → Int32 → (Nat → Int32) → Int32 → Prop
  | 0 => fun _ _ _ _ => False
  | N + 1 => fun Mod_size Mod_bit mf y3 => ((y3 : Int32) < 0 → (post (Mod_size, Mod_bit, mf))) ∧ (¬ ((y3 : Int32) < 0) → (wp_Mod_next n Mod_size Mod_bit mf (((x1 : Int32) >>> (y3 &&& 31)) &&& 1) (fun u3 => ∀ z5 : Int32, z5 = (y3 + (-1)) → (wp_Mod_highest_4 n x1 x2 post N u3.1 u3.2.1 u3.2.2 z5))))
def wp_Mod_highest (n : Nat → Nat) (Mod_size : Int32) (Mod_bit : Int32) (mf : Nat → Int32) (x1 : Int32) (x2 : Int32) (post : Int32 × Int32 × (Nat → Int32) → Prop) : Prop := ∀ z1 : Int32, z1 = (x2 - 1) → (∃ N6 : Nat, wp_Mod_highest_4 n x1 x2 post N6 Mod_size Mod_bit mf z1)
set_option maxHeartbeats 2000000 in
set_option maxRecDepth 20000 in
theorem s_Mod_highest_4 {l : Launch} {dC : Nat → ClassId} {dI : Nat → Nat → Nat} {cI : ClassId} {tb : Tbs} {a n : Nat → Nat} {p : Program} {e : Env} {s : State} {m : MethodId} {args : Array Value} {below : List Frame} {meth : Method} {c : Code} {A : Nat → Prop} (E : CallFix p m c prog_9_method_17_code 4 s args TBL "PicturePackerModel") (hr : meth.sig.returnType = none) (hlk : meth.locks = false) {Mod_thrown : Int32} {Mod_width : Int32} {Mod_height : Int32} {Mod_many : Int32} {Mod_single : Int32} {Mod_runs : Int32} {Mod_longest : Int32} {x1 : Int32} {x2 : Int32} {post : Int32 × Int32 × (Nat → Int32) → Prop} : ∀ (N : Nat) (Mod_size : Int32) (Mod_bit : Int32) (mf : Nat → Int32) (y3 : Int32) (H : Heap) (locs : List Loc) (ls : Array Slot), Wl classes dC dI cI tb A s H locs [e_Mod a Mod_thrown Mod_width Mod_height Mod_many Mod_size Mod_bit Mod_single Mod_runs Mod_longest, e_ar a n cI 17 mf] → lv_has ls 4 [(0, .ref (a 7)), (1, .int x1), (3, .int y3)] → wp_Mod_highest_4 n x1 x2 post N Mod_size Mod_bit mf y3 → W p l e ({ frames := 2, cells := 0, slots := 0, locals := 42 }) s m args below meth c H locs 0 0 (MQ below (va_Qv post (fun u => End0 classes dC dI cI A [e_Mod a Mod_thrown Mod_width Mod_height Mod_many u.1 u.2.1 Mod_single Mod_runs Mod_longest, e_ar a n cI 17 u.2.2]) A) args s 0 0 A) (F0 m 4 ls []) := by
  obtain ⟨hx, hb, hml, hown, hts⟩ := id E
  intro N
  induction N with
  | zero =>
    intro _ _ _ _ H locs ls hw hl h
    exact absurd h id
  | succ N ih =>
    intro Mod_size Mod_bit mf y3 H locs ls hw hl h
    unfold wp_Mod_highest_4 at h
    refine lv_iload_n hx hb d_Mod_highest_4 rfl (lv_at hl 2 rfl) ?_
    refine lv_if_lt (tgt := 23) hx hb d_Mod_highest_5 (by decide) (fun c2 => ?_) (fun c2 => ?_)
    · have h := h.1 c2
      exact retV (out := fun u => [e_Mod a Mod_thrown Mod_width Mod_height Mod_many u.1 u.2.1 Mod_single Mod_runs Mod_longest, e_ar a n cI 17 u.2.2]) (u := (Mod_size, Mod_bit, mf)) E hr hlk hw h d_Mod_highest_23
    · have h := h.2 c2
      refine lv_aload_n hx hb d_Mod_highest_8 rfl (lv_at hl 0 rfl) ?_
      refine lv_iload_n hx hb d_Mod_highest_9 rfl (lv_at hl 1 rfl) ?_
      refine lv_iload_n hx hb d_Mod_highest_10 rfl (lv_at hl 2 rfl) ?_
      refine lv_ishr hx hb d_Mod_highest_11 ?_
      refine lv_iconst (v := 1) hx hb d_Mod_highest_12 (by decide) ?_
      refine lv_iand hx hb d_Mod_highest_13 ?_
      refine kVv (y := y_Mod_next) (ws' := fun u3 => [e_Mod a Mod_thrown Mod_width Mod_height Mod_many u3.1 u3.2.1 Mod_single Mod_runs Mod_longest, e_ar a n cI 17 u3.2.2]) (wr := []) (As := [.int (((x1 : Int32) >>> (y3 &&& 31)) &&& 1)]) (rest := []) E hw (c_Mod_next (l := l) (dC := dC) (dI := dI) (cI := cI) (tb := tb) (a := a) (n := n) (Mod_thrown := Mod_thrown) (Mod_width := Mod_width) (Mod_height := Mod_height) (Mod_many := Mod_many) (Mod_size := Mod_size) (Mod_bit := Mod_bit) (Mod_single := Mod_single) (Mod_runs := Mod_runs) (Mod_longest := Mod_longest) (mf := mf) (x1 := ((x1 : Int32) >>> (y3 &&& 31)) &&& 1) h) tw527 tw529 tw24 tw42 tw530 1 (by decide) ⟨Nat.le_of_ble_eq_true rfl, Nat.le_of_ble_eq_true rfl⟩ ⟨Nat.le_of_ble_eq_true rfl, Nat.le_of_ble_eq_true rfl⟩ ⟨rfl, rfl⟩ rfl rfl 0 rfl [0, 1] [] [0, 1] rfl rfl rfl rfl (by decide) rfl (fun _ => rfl) hl.1 rfl rfl (Nat.le_of_ble_eq_true rfl) d_Mod_highest_14 (fun u3 H locs h hw => ?_)
      obtain ⟨z5, ez5⟩ : ∃ z : Int32, z = y3 + (-1) := ⟨_, rfl⟩
      have h := h z5 ez5
      refine lv_iinc (v := z5) (lv' := [(3, .int z5), (0, .ref (a 7)), (1, .int x1)]) hx hb d_Mod_highest_17 hl (k := 2) rfl (by rw [ez5]; exact congrArg (y3 + ·) (by decide)) (by decide) rfl (fun ls hl => ?_)
      refine lv_goto (tgt := 4) hx hb d_Mod_highest_20 (by decide) ?_
      exact ih u3.1 u3.2.1 u3.2.2 z5 _ _ ls hw (lv_sub hl [1, 2, 0] rfl) h
set_option maxHeartbeats 2000000 in
set_option maxRecDepth 20000 in
theorem c_Mod_highest {l : Launch} {dC : Nat → ClassId} {dI : Nat → Nat → Nat} {cI : ClassId} {tb : Tbs} {a n : Nat → Nat} {Mod_thrown : Int32} {Mod_width : Int32} {Mod_height : Int32} {Mod_many : Int32} {Mod_size : Int32} {Mod_bit : Int32} {Mod_single : Int32} {Mod_runs : Int32} {Mod_longest : Int32} {mf : Nat → Int32} {x1 : Int32} {x2 : Int32} {post : Int32 × Int32 × (Nat → Int32) → Prop} (h : wp_Mod_highest n Mod_size Mod_bit mf x1 x2 post) : CtV classes dC dI cI tb l y_Mod_highest prog_9_method_17_code 4 ({ frames := 2, cells := 0, slots := 0, locals := 42 }) [.ref (a 7), .int x1, .int x2] [e_Mod a Mod_thrown Mod_width Mod_height Mod_many Mod_size Mod_bit Mod_single Mod_runs Mod_longest, e_ar a n cI 17 mf] (Int32 × Int32 × (Nat → Int32)) (fun u => [e_Mod a Mod_thrown Mod_width Mod_height Mod_many u.1 u.2.1 Mod_single Mod_runs Mod_longest, e_ar a n cI 17 u.2.2]) post := by
  refine startV (by decide) (Nat.le_of_ble_eq_true rfl) ?_
  intro p e s m below meth c ls E hr hlk hnm hl hw
  have hl : lv_has ls 4 [(0, .ref (a 7)), (1, .int x1), (2, .int x2)] := hl
  generalize va_A [e_Mod a Mod_thrown Mod_width Mod_height Mod_many Mod_size Mod_bit Mod_single Mod_runs Mod_longest, e_ar a n cI 17 mf] s.heap.size = A at hw ⊢
  obtain ⟨hx, hb, hml, hown, hts⟩ := id E
  unfold wp_Mod_highest at h
  refine lv_iload_n hx hb d_Mod_highest_0 rfl (lv_at hl 2 rfl) ?_
  refine lv_iconst (v := 1) hx hb d_Mod_highest_1 (by decide) ?_
  refine lv_isub hx hb d_Mod_highest_2 ?_
  refine lv_topi (fun z1 ez1 => ?_)
  have h := h z1 ez1
  refine lv_istore_n (lv' := [(3, .int z1), (0, .ref (a 7)), (1, .int x1), (2, .int x2)]) hx hb d_Mod_highest_3 rfl hl (by decide) rfl (fun ls hl => ?_)
  obtain ⟨N6, h⟩ := h
  exact s_Mod_highest_4 (a := a) (n := n) (tb := tb) E hr hlk  N6 Mod_size Mod_bit mf z1 _ _ ls hw (lv_sub hl [1, 2, 0] rfl) h
-- PicturePackerModel.lowest(II)V
theorem d_Mod_lowest_0 : decode prog_9_method_18_code 0 = .ok (.iconst 0, 1) := by decide +kernel
theorem d_Mod_lowest_1 : decode prog_9_method_18_code 1 = .ok (.istore_n 3, 1) := by decide +kernel
theorem d_Mod_lowest_2 : decode prog_9_method_18_code 2 = .ok (.iload_n 3, 1) := by decide +kernel
theorem d_Mod_lowest_3 : decode prog_9_method_18_code 3 = .ok (.iload_n 2, 1) := by decide +kernel
theorem d_Mod_lowest_4 : decode prog_9_method_18_code 4 = .ok (.if_icmp .ge 18, 3) := by decide +kernel
theorem d_Mod_lowest_7 : decode prog_9_method_18_code 7 = .ok (.aload_n 0, 1) := by decide +kernel
theorem d_Mod_lowest_8 : decode prog_9_method_18_code 8 = .ok (.iload_n 1, 1) := by decide +kernel
theorem d_Mod_lowest_9 : decode prog_9_method_18_code 9 = .ok (.iload_n 3, 1) := by decide +kernel
theorem d_Mod_lowest_10 : decode prog_9_method_18_code 10 = .ok (.ishr, 1) := by decide +kernel
theorem d_Mod_lowest_11 : decode prog_9_method_18_code 11 = .ok (.iconst 1, 1) := by decide +kernel
theorem d_Mod_lowest_12 : decode prog_9_method_18_code 12 = .ok (.iand, 1) := by decide +kernel
theorem d_Mod_lowest_13 : decode prog_9_method_18_code 13 = .ok (.invokevirtual 65, 3) := by decide +kernel
theorem d_Mod_lowest_16 : decode prog_9_method_18_code 16 = .ok (.iinc 3 1, 3) := by decide +kernel
theorem d_Mod_lowest_19 : decode prog_9_method_18_code 19 = .ok (.goto (-17), 3) := by decide +kernel
theorem d_Mod_lowest_22 : decode prog_9_method_18_code 22 = .ok (.return_, 1) := by decide +kernel
abbrev y_Mod_lowest : MethodName := ⟨"PicturePackerModel", "lowest", "(II)V"⟩
def wp_Mod_lowest_2 (n : Nat → Nat) (x1 : Int32) (x2 : Int32) (post : Int32 × Int32 × (Nat → Int32) → Prop) : Nat → Int32 → Int32 → (Nat → Int32) → Int32 → Prop
  | 0 => fun _ _ _ _ => False
  | N + 1 => fun Mod_size Mod_bit mf y3 => ((x2 : Int32) ≤ y3 → (post (Mod_size, Mod_bit, mf))) ∧ (¬ ((x2 : Int32) ≤ y3) → (wp_Mod_next n Mod_size Mod_bit mf (((x1 : Int32) >>> (y3 &&& 31)) &&& 1) (fun u2 => ∀ z4 : Int32, z4 = (y3 + 1) → (wp_Mod_lowest_2 n x1 x2 post N u2.1 u2.2.1 u2.2.2 z4))))
def wp_Mod_lowest (n : Nat → Nat) (Mod_size : Int32) (Mod_bit : Int32) (mf : Nat → Int32) (x1 : Int32) (x2 : Int32) (post : Int32 × Int32 × (Nat → Int32) → Prop) : Prop := ∃ N5 : Nat, wp_Mod_lowest_2 n x1 x2 post N5 Mod_size Mod_bit mf 0
set_option maxHeartbeats 2000000 in
set_option maxRecDepth 20000 in
theorem s_Mod_lowest_2 {l : Launch} {dC : Nat → ClassId} {dI : Nat → Nat → Nat} {cI : ClassId} {tb : Tbs} {a n : Nat → Nat} {p : Program} {e : Env} {s : State} {m : MethodId} {args : Array Value} {below : List Frame} {meth : Method} {c : Code} {A : Nat → Prop} (E : CallFix p m c prog_9_method_18_code 4 s args TBL "PicturePackerModel") (hr : meth.sig.returnType = none) (hlk : meth.locks = false) {Mod_thrown : Int32} {Mod_width : Int32} {Mod_height : Int32} {Mod_many : Int32} {Mod_single : Int32} {Mod_runs : Int32} {Mod_longest : Int32} {x1 : Int32} {x2 : Int32} {post : Int32 × Int32 × (Nat → Int32) → Prop} : ∀ (N : Nat) (Mod_size : Int32) (Mod_bit : Int32) (mf : Nat → Int32) (y3 : Int32) (H : Heap) (locs : List Loc) (ls : Array Slot), Wl classes dC dI cI tb A s H locs [e_Mod a Mod_thrown Mod_width Mod_height Mod_many Mod_size Mod_bit Mod_single Mod_runs Mod_longest, e_ar a n cI 17 mf] → lv_has ls 4 [(0, .ref (a 7)), (1, .int x1), (2, .int x2), (3, .int y3)] → wp_Mod_lowest_2 n x1 x2 post N Mod_size Mod_bit mf y3 → W p l e ({ frames := 2, cells := 0, slots := 0, locals := 42 }) s m args below meth c H locs 0 0 (MQ below (va_Qv post (fun u => End0 classes dC dI cI A [e_Mod a Mod_thrown Mod_width Mod_height Mod_many u.1 u.2.1 Mod_single Mod_runs Mod_longest, e_ar a n cI 17 u.2.2]) A) args s 0 0 A) (F0 m 2 ls []) := by
  obtain ⟨hx, hb, hml, hown, hts⟩ := id E
  intro N
  induction N with
  | zero =>
    intro _ _ _ _ H locs ls hw hl h
    exact absurd h id
  | succ N ih =>
    intro Mod_size Mod_bit mf y3 H locs ls hw hl h
    unfold wp_Mod_lowest_2 at h
    refine lv_iload_n hx hb d_Mod_lowest_2 rfl (lv_at hl 3 rfl) ?_
    refine lv_iload_n hx hb d_Mod_lowest_3 rfl (lv_at hl 2 rfl) ?_
    refine lv_icmp_ge (tgt := 22) hx hb d_Mod_lowest_4 (by decide) (fun c1 => ?_) (fun c1 => ?_)
    · have h := h.1 c1
      exact retV (out := fun u => [e_Mod a Mod_thrown Mod_width Mod_height Mod_many u.1 u.2.1 Mod_single Mod_runs Mod_longest, e_ar a n cI 17 u.2.2]) (u := (Mod_size, Mod_bit, mf)) E hr hlk hw h d_Mod_lowest_22
    · have h := h.2 c1
      refine lv_aload_n hx hb d_Mod_lowest_7 rfl (lv_at hl 0 rfl) ?_
      refine lv_iload_n hx hb d_Mod_lowest_8 rfl (lv_at hl 1 rfl) ?_
      refine lv_iload_n hx hb d_Mod_lowest_9 rfl (lv_at hl 3 rfl) ?_
      refine lv_ishr hx hb d_Mod_lowest_10 ?_
      refine lv_iconst (v := 1) hx hb d_Mod_lowest_11 (by decide) ?_
      refine lv_iand hx hb d_Mod_lowest_12 ?_
      refine kVv (y := y_Mod_next) (ws' := fun u2 => [e_Mod a Mod_thrown Mod_width Mod_height Mod_many u2.1 u2.2.1 Mod_single Mod_runs Mod_longest, e_ar a n cI 17 u2.2.2]) (wr := []) (As := [.int (((x1 : Int32) >>> (y3 &&& 31)) &&& 1)]) (rest := []) E hw (c_Mod_next (l := l) (dC := dC) (dI := dI) (cI := cI) (tb := tb) (a := a) (n := n) (Mod_thrown := Mod_thrown) (Mod_width := Mod_width) (Mod_height := Mod_height) (Mod_many := Mod_many) (Mod_size := Mod_size) (Mod_bit := Mod_bit) (Mod_single := Mod_single) (Mod_runs := Mod_runs) (Mod_longest := Mod_longest) (mf := mf) (x1 := ((x1 : Int32) >>> (y3 &&& 31)) &&& 1) h) tw527 tw529 tw24 tw42 tw530 1 (by decide) ⟨Nat.le_of_ble_eq_true rfl, Nat.le_of_ble_eq_true rfl⟩ ⟨Nat.le_of_ble_eq_true rfl, Nat.le_of_ble_eq_true rfl⟩ ⟨rfl, rfl⟩ rfl rfl 0 rfl [0, 1] [] [0, 1] rfl rfl rfl rfl (by decide) rfl (fun _ => rfl) hl.1 rfl rfl (Nat.le_of_ble_eq_true rfl) d_Mod_lowest_13 (fun u2 H locs h hw => ?_)
      obtain ⟨z4, ez4⟩ : ∃ z : Int32, z = y3 + 1 := ⟨_, rfl⟩
      have h := h z4 ez4
      refine lv_iinc (v := z4) (lv' := [(3, .int z4), (0, .ref (a 7)), (1, .int x1), (2, .int x2)]) hx hb d_Mod_lowest_16 hl (k := 3) rfl (by rw [ez4]; exact congrArg (y3 + ·) (by decide)) (by decide) rfl (fun ls hl => ?_)
      refine lv_goto (tgt := 2) hx hb d_Mod_lowest_19 (by decide) ?_
      exact ih u2.1 u2.2.1 u2.2.2 z4 _ _ ls hw (lv_sub hl [1, 2, 3, 0] rfl) h
set_option maxHeartbeats 2000000 in
set_option maxRecDepth 20000 in
theorem c_Mod_lowest {l : Launch} {dC : Nat → ClassId} {dI : Nat → Nat → Nat} {cI : ClassId} {tb : Tbs} {a n : Nat → Nat} {Mod_thrown : Int32} {Mod_width : Int32} {Mod_height : Int32} {Mod_many : Int32} {Mod_size : Int32} {Mod_bit : Int32} {Mod_single : Int32} {Mod_runs : Int32} {Mod_longest : Int32} {mf : Nat → Int32} {x1 : Int32} {x2 : Int32} {post : Int32 × Int32 × (Nat → Int32) → Prop} (h : wp_Mod_lowest n Mod_size Mod_bit mf x1 x2 post) : CtV classes dC dI cI tb l y_Mod_lowest prog_9_method_18_code 4 ({ frames := 2, cells := 0, slots := 0, locals := 42 }) [.ref (a 7), .int x1, .int x2] [e_Mod a Mod_thrown Mod_width Mod_height Mod_many Mod_size Mod_bit Mod_single Mod_runs Mod_longest, e_ar a n cI 17 mf] (Int32 × Int32 × (Nat → Int32)) (fun u => [e_Mod a Mod_thrown Mod_width Mod_height Mod_many u.1 u.2.1 Mod_single Mod_runs Mod_longest, e_ar a n cI 17 u.2.2]) post := by
  refine startV (by decide) (Nat.le_of_ble_eq_true rfl) ?_
  intro p e s m below meth c ls E hr hlk hnm hl hw
  have hl : lv_has ls 4 [(0, .ref (a 7)), (1, .int x1), (2, .int x2)] := hl
  generalize va_A [e_Mod a Mod_thrown Mod_width Mod_height Mod_many Mod_size Mod_bit Mod_single Mod_runs Mod_longest, e_ar a n cI 17 mf] s.heap.size = A at hw ⊢
  obtain ⟨hx, hb, hml, hown, hts⟩ := id E
  unfold wp_Mod_lowest at h
  refine lv_iconst (v := 0) hx hb d_Mod_lowest_0 (by decide) ?_
  refine lv_istore_n (lv' := [(3, .int 0), (0, .ref (a 7)), (1, .int x1), (2, .int x2)]) hx hb d_Mod_lowest_1 rfl hl (by decide) rfl (fun ls hl => ?_)
  obtain ⟨N5, h⟩ := h
  exact s_Mod_lowest_2 (a := a) (n := n) (tb := tb) E hr hlk  N5 Mod_size Mod_bit mf 0 _ _ ls hw (lv_sub hl [1, 2, 3, 0] rfl) h
-- PicturePackerModel.sign(I)V
theorem d_Mod_sign_0 : decode prog_9_method_19_code 0 = .ok (.iload_n 1, 1) := by decide +kernel
theorem d_Mod_sign_1 : decode prog_9_method_19_code 1 = .ok (.sipush 144, 3) := by decide +kernel
theorem d_Mod_sign_4 : decode prog_9_method_19_code 4 = .ok (.if_icmp .ge 16, 3) := by decide +kernel
theorem d_Mod_sign_7 : decode prog_9_method_19_code 7 = .ok (.aload_n 0, 1) := by decide +kernel
theorem d_Mod_sign_8 : decode prog_9_method_19_code 8 = .ok (.bipush 48, 2) := by decide +kernel
theorem d_Mod_sign_10 : decode prog_9_method_19_code 10 = .ok (.iload_n 1, 1) := by decide +kernel
theorem d_Mod_sign_11 : decode prog_9_method_19_code 11 = .ok (.iadd, 1) := by decide +kernel
theorem d_Mod_sign_12 : decode prog_9_method_19_code 12 = .ok (.bipush 8, 2) := by decide +kernel
theorem d_Mod_sign_14 : decode prog_9_method_19_code 14 = .ok (.invokevirtual 68, 3) := by decide +kernel
theorem d_Mod_sign_17 : decode prog_9_method_19_code 17 = .ok (.goto 64, 3) := by decide +kernel
theorem d_Mod_sign_20 : decode prog_9_method_19_code 20 = .ok (.iload_n 1, 1) := by decide +kernel
theorem d_Mod_sign_21 : decode prog_9_method_19_code 21 = .ok (.sipush 256, 3) := by decide +kernel
theorem d_Mod_sign_24 : decode prog_9_method_19_code 24 = .ok (.if_icmp .ge 21, 3) := by decide +kernel
theorem d_Mod_sign_27 : decode prog_9_method_19_code 27 = .ok (.aload_n 0, 1) := by decide +kernel
theorem d_Mod_sign_28 : decode prog_9_method_19_code 28 = .ok (.sipush 400, 3) := by decide +kernel
theorem d_Mod_sign_31 : decode prog_9_method_19_code 31 = .ok (.iload_n 1, 1) := by decide +kernel
theorem d_Mod_sign_32 : decode prog_9_method_19_code 32 = .ok (.iadd, 1) := by decide +kernel
theorem d_Mod_sign_33 : decode prog_9_method_19_code 33 = .ok (.sipush 144, 3) := by decide +kernel
theorem d_Mod_sign_36 : decode prog_9_method_19_code 36 = .ok (.isub, 1) := by decide +kernel
theorem d_Mod_sign_37 : decode prog_9_method_19_code 37 = .ok (.bipush 9, 2) := by decide +kernel
theorem d_Mod_sign_39 : decode prog_9_method_19_code 39 = .ok (.invokevirtual 68, 3) := by decide +kernel
theorem d_Mod_sign_42 : decode prog_9_method_19_code 42 = .ok (.goto 39, 3) := by decide +kernel
theorem d_Mod_sign_45 : decode prog_9_method_19_code 45 = .ok (.iload_n 1, 1) := by decide +kernel
theorem d_Mod_sign_46 : decode prog_9_method_19_code 46 = .ok (.sipush 280, 3) := by decide +kernel
theorem d_Mod_sign_49 : decode prog_9_method_19_code 49 = .ok (.if_icmp .ge 17, 3) := by decide +kernel
theorem d_Mod_sign_52 : decode prog_9_method_19_code 52 = .ok (.aload_n 0, 1) := by decide +kernel
theorem d_Mod_sign_53 : decode prog_9_method_19_code 53 = .ok (.iload_n 1, 1) := by decide +kernel
theorem d_Mod_sign_54 : decode prog_9_method_19_code 54 = .ok (.sipush 256, 3) := by decide +kernel
theorem d_Mod_sign_57 : decode prog_9_method_19_code 57 = .ok (.isub, 1) := by decide +kernel
theorem d_Mod_sign_58 : decode prog_9_method_19_code 58 = .ok (.bipush 7, 2) := by decide +kernel
theorem d_Mod_sign_60 : decode prog_9_method_19_code 60 = .ok (.invokevirtual 68, 3) := by decide +kernel
theorem d_Mod_sign_63 : decode prog_9_method_19_code 63 = .ok (.goto 18, 3) := by decide +kernel
theorem d_Mod_sign_66 : decode prog_9_method_19_code 66 = .ok (.aload_n 0, 1) := by decide +kernel
theorem d_Mod_sign_67 : decode prog_9_method_19_code 67 = .ok (.sipush 192, 3) := by decide +kernel
theorem d_Mod_sign_70 : decode prog_9_method_19_code 70 = .ok (.iload_n 1, 1) := by decide +kernel
theorem d_Mod_sign_71 : decode prog_9_method_19_code 71 = .ok (.iadd, 1) := by decide +kernel
theorem d_Mod_sign_72 : decode prog_9_method_19_code 72 = .ok (.sipush 280, 3) := by decide +kernel
theorem d_Mod_sign_75 : decode prog_9_method_19_code 75 = .ok (.isub, 1) := by decide +kernel
theorem d_Mod_sign_76 : decode prog_9_method_19_code 76 = .ok (.bipush 8, 2) := by decide +kernel
theorem d_Mod_sign_78 : decode prog_9_method_19_code 78 = .ok (.invokevirtual 68, 3) := by decide +kernel
theorem d_Mod_sign_81 : decode prog_9_method_19_code 81 = .ok (.return_, 1) := by decide +kernel
abbrev y_Mod_sign : MethodName := ⟨"PicturePackerModel", "sign", "(I)V"⟩
def wp_Mod_sign (n : Nat → Nat) (Mod_size : Int32) (Mod_bit : Int32) (mf : Nat → Int32) (x1 : Int32) (post : Int32 × Int32 × (Nat → Int32) → Prop) : Prop := ((144 : Int32) ≤ x1 → (((256 : Int32) ≤ x1 → (((280 : Int32) ≤ x1 → (wp_Mod_highest n Mod_size Mod_bit mf ((192 + x1) - 280) 8 (fun u4 => post (u4.1, u4.2.1, u4.2.2)))) ∧ (¬ ((280 : Int32) ≤ x1) → (wp_Mod_highest n Mod_size Mod_bit mf (x1 - 256) 7 (fun u6 => post (u6.1, u6.2.1, u6.2.2)))))) ∧ (¬ ((256 : Int32) ≤ x1) → (wp_Mod_highest n Mod_size Mod_bit mf ((400 + x1) - 144) 9 (fun u8 => post (u8.1, u8.2.1, u8.2.2)))))) ∧ (¬ ((144 : Int32) ≤ x1) → (wp_Mod_highest n Mod_size Mod_bit mf (48 + x1) 8 (fun u10 => post (u10.1, u10.2.1, u10.2.2))))
set_option maxHeartbeats 2000000 in
set_option maxRecDepth 20000 in
theorem c_Mod_sign {l : Launch} {dC : Nat → ClassId} {dI : Nat → Nat → Nat} {cI : ClassId} {tb : Tbs} {a n : Nat → Nat} {Mod_thrown : Int32} {Mod_width : Int32} {Mod_height : Int32} {Mod_many : Int32} {Mod_size : Int32} {Mod_bit : Int32} {Mod_single : Int32} {Mod_runs : Int32} {Mod_longest : Int32} {mf : Nat → Int32} {x1 : Int32} {post : Int32 × Int32 × (Nat → Int32) → Prop} (h : wp_Mod_sign n Mod_size Mod_bit mf x1 post) : CtV classes dC dI cI tb l y_Mod_sign prog_9_method_19_code 2 ({ frames := 3, cells := 0, slots := 0, locals := 65 }) [.ref (a 7), .int x1] [e_Mod a Mod_thrown Mod_width Mod_height Mod_many Mod_size Mod_bit Mod_single Mod_runs Mod_longest, e_ar a n cI 17 mf] (Int32 × Int32 × (Nat → Int32)) (fun u => [e_Mod a Mod_thrown Mod_width Mod_height Mod_many u.1 u.2.1 Mod_single Mod_runs Mod_longest, e_ar a n cI 17 u.2.2]) post := by
  refine startV (by decide) (Nat.le_of_ble_eq_true rfl) ?_
  intro p e s m below meth c ls E hr hlk hnm hl hw
  have hl : lv_has ls 2 [(0, .ref (a 7)), (1, .int x1)] := hl
  generalize va_A [e_Mod a Mod_thrown Mod_width Mod_height Mod_many Mod_size Mod_bit Mod_single Mod_runs Mod_longest, e_ar a n cI 17 mf] s.heap.size = A at hw ⊢
  obtain ⟨hx, hb, hml, hown, hts⟩ := id E
  unfold wp_Mod_sign at h
  refine lv_iload_n hx hb d_Mod_sign_0 rfl (lv_at hl 1 rfl) ?_
  refine lv_sipush (v := 144) hx hb d_Mod_sign_1 (by decide) ?_
  refine lv_icmp_ge (tgt := 20) hx hb d_Mod_sign_4 (by decide) (fun c1 => ?_) (fun c1 => ?_)
  · have h := h.1 c1
    refine lv_iload_n hx hb d_Mod_sign_20 rfl (lv_at hl 1 rfl) ?_
    refine lv_sipush (v := 256) hx hb d_Mod_sign_21 (by decide) ?_
    refine lv_icmp_ge (tgt := 45) hx hb d_Mod_sign_24 (by decide) (fun c2 => ?_) (fun c2 => ?_)
    · have h := h.1 c2
      refine lv_iload_n hx hb d_Mod_sign_45 rfl (lv_at hl 1 rfl) ?_
      refine lv_sipush (v := 280) hx hb d_Mod_sign_46 (by decide) ?_
      refine lv_icmp_ge (tgt := 66) hx hb d_Mod_sign_49 (by decide) (fun c3 => ?_) (fun c3 => ?_)
      · have h := h.1 c3
        refine lv_aload_n hx hb d_Mod_sign_66 rfl (lv_at hl 0 rfl) ?_
        refine lv_sipush (v := 192) hx hb d_Mod_sign_67 (by decide) ?_
        refine lv_iload_n hx hb d_Mod_sign_70 rfl (lv_at hl 1 rfl) ?_
        refine lv_iadd hx hb d_Mod_sign_71 ?_
        refine lv_sipush (v := 280) hx hb d_Mod_sign_72 (by decide) ?_
        refine lv_isub hx hb d_Mod_sign_75 ?_
        refine lv_bipush (v := 8) hx hb d_Mod_sign_76 (by decide) ?_
        refine kVv (y := y_Mod_highest) (ws' := fun u4 => [e_Mod a Mod_thrown Mod_width Mod_height Mod_many u4.1 u4.2.1 Mod_single Mod_runs Mod_longest, e_ar a n cI 17 u4.2.2]) (wr := []) (As := [.int ((192 + x1) - 280), .int 8]) (rest := []) E hw (c_Mod_highest (l := l) (dC := dC) (dI := dI) (cI := cI) (tb := tb) (a := a) (n := n) (Mod_thrown := Mod_thrown) (Mod_width := Mod_width) (Mod_height := Mod_height) (Mod_many := Mod_many) (Mod_size := Mod_size) (Mod_bit := Mod_bit) (Mod_single := Mod_single) (Mod_runs := Mod_runs) (Mod_longest := Mod_longest) (mf := mf) (x1 := (192 + x1) - 280) (x2 := 8) h) tw544 tw546 tw28 tw42 tw547 2 (by decide) ⟨Nat.le_of_ble_eq_true rfl, Nat.le_of_ble_eq_true rfl⟩ ⟨Nat.le_of_ble_eq_true rfl, Nat.le_of_ble_eq_true rfl⟩ ⟨rfl, rfl⟩ rfl rfl 0 rfl [0, 1] [] [0, 1] rfl rfl rfl rfl (by decide) rfl (fun _ => rfl) hl.1 rfl rfl (Nat.le_of_ble_eq_true rfl) d_Mod_sign_78 (fun u4 H locs h hw => ?_)
        exact retV (out := fun u => [e_Mod a Mod_thrown Mod_width Mod_height Mod_many u.1 u.2.1 Mod_single Mod_runs Mod_longest, e_ar a n cI 17 u.2.2]) (u := (u4.1, u4.2.1, u4.2.2)) E hr hlk hw h d_Mod_sign_81
      · have h := h.2 c3
        refine lv_aload_n hx hb d_Mod_sign_52 rfl (lv_at hl 0 rfl) ?_
        refine lv_iload_n hx hb d_Mod_sign_53 rfl (lv_at hl 1 rfl) ?_
        refine lv_sipush (v := 256) hx hb d_Mod_sign_54 (by decide) ?_
        refine lv_isub hx hb d_Mod_sign_57 ?_
        refine lv_bipush (v := 7) hx hb d_Mod_sign_58 (by decide) ?_
        refine kVv (y := y_Mod_highest) (ws' := fun u6 => [e_Mod a Mod_thrown Mod_width Mod_height Mod_many u6.1 u6.2.1 Mod_single Mod_runs Mod_longest, e_ar a n cI 17 u6.2.2]) (wr := []) (As := [.int (x1 - 256), .int 7]) (rest := []) E hw (c_Mod_highest (l := l) (dC := dC) (dI := dI) (cI := cI) (tb := tb) (a := a) (n := n) (Mod_thrown := Mod_thrown) (Mod_width := Mod_width) (Mod_height := Mod_height) (Mod_many := Mod_many) (Mod_size := Mod_size) (Mod_bit := Mod_bit) (Mod_single := Mod_single) (Mod_runs := Mod_runs) (Mod_longest := Mod_longest) (mf := mf) (x1 := x1 - 256) (x2 := 7) h) tw544 tw546 tw28 tw42 tw547 2 (by decide) ⟨Nat.le_of_ble_eq_true rfl, Nat.le_of_ble_eq_true rfl⟩ ⟨Nat.le_of_ble_eq_true rfl, Nat.le_of_ble_eq_true rfl⟩ ⟨rfl, rfl⟩ rfl rfl 0 rfl [0, 1] [] [0, 1] rfl rfl rfl rfl (by decide) rfl (fun _ => rfl) hl.1 rfl rfl (Nat.le_of_ble_eq_true rfl) d_Mod_sign_60 (fun u6 H locs h hw => ?_)
        refine lv_goto (tgt := 81) hx hb d_Mod_sign_63 (by decide) ?_
        exact retV (out := fun u => [e_Mod a Mod_thrown Mod_width Mod_height Mod_many u.1 u.2.1 Mod_single Mod_runs Mod_longest, e_ar a n cI 17 u.2.2]) (u := (u6.1, u6.2.1, u6.2.2)) E hr hlk hw h d_Mod_sign_81
    · have h := h.2 c2
      refine lv_aload_n hx hb d_Mod_sign_27 rfl (lv_at hl 0 rfl) ?_
      refine lv_sipush (v := 400) hx hb d_Mod_sign_28 (by decide) ?_
      refine lv_iload_n hx hb d_Mod_sign_31 rfl (lv_at hl 1 rfl) ?_
      refine lv_iadd hx hb d_Mod_sign_32 ?_
      refine lv_sipush (v := 144) hx hb d_Mod_sign_33 (by decide) ?_
      refine lv_isub hx hb d_Mod_sign_36 ?_
      refine lv_bipush (v := 9) hx hb d_Mod_sign_37 (by decide) ?_
      refine kVv (y := y_Mod_highest) (ws' := fun u8 => [e_Mod a Mod_thrown Mod_width Mod_height Mod_many u8.1 u8.2.1 Mod_single Mod_runs Mod_longest, e_ar a n cI 17 u8.2.2]) (wr := []) (As := [.int ((400 + x1) - 144), .int 9]) (rest := []) E hw (c_Mod_highest (l := l) (dC := dC) (dI := dI) (cI := cI) (tb := tb) (a := a) (n := n) (Mod_thrown := Mod_thrown) (Mod_width := Mod_width) (Mod_height := Mod_height) (Mod_many := Mod_many) (Mod_size := Mod_size) (Mod_bit := Mod_bit) (Mod_single := Mod_single) (Mod_runs := Mod_runs) (Mod_longest := Mod_longest) (mf := mf) (x1 := (400 + x1) - 144) (x2 := 9) h) tw544 tw546 tw28 tw42 tw547 2 (by decide) ⟨Nat.le_of_ble_eq_true rfl, Nat.le_of_ble_eq_true rfl⟩ ⟨Nat.le_of_ble_eq_true rfl, Nat.le_of_ble_eq_true rfl⟩ ⟨rfl, rfl⟩ rfl rfl 0 rfl [0, 1] [] [0, 1] rfl rfl rfl rfl (by decide) rfl (fun _ => rfl) hl.1 rfl rfl (Nat.le_of_ble_eq_true rfl) d_Mod_sign_39 (fun u8 H locs h hw => ?_)
      refine lv_goto (tgt := 81) hx hb d_Mod_sign_42 (by decide) ?_
      exact retV (out := fun u => [e_Mod a Mod_thrown Mod_width Mod_height Mod_many u.1 u.2.1 Mod_single Mod_runs Mod_longest, e_ar a n cI 17 u.2.2]) (u := (u8.1, u8.2.1, u8.2.2)) E hr hlk hw h d_Mod_sign_81
  · have h := h.2 c1
    refine lv_aload_n hx hb d_Mod_sign_7 rfl (lv_at hl 0 rfl) ?_
    refine lv_bipush (v := 48) hx hb d_Mod_sign_8 (by decide) ?_
    refine lv_iload_n hx hb d_Mod_sign_10 rfl (lv_at hl 1 rfl) ?_
    refine lv_iadd hx hb d_Mod_sign_11 ?_
    refine lv_bipush (v := 8) hx hb d_Mod_sign_12 (by decide) ?_
    refine kVv (y := y_Mod_highest) (ws' := fun u10 => [e_Mod a Mod_thrown Mod_width Mod_height Mod_many u10.1 u10.2.1 Mod_single Mod_runs Mod_longest, e_ar a n cI 17 u10.2.2]) (wr := []) (As := [.int (48 + x1), .int 8]) (rest := []) E hw (c_Mod_highest (l := l) (dC := dC) (dI := dI) (cI := cI) (tb := tb) (a := a) (n := n) (Mod_thrown := Mod_thrown) (Mod_width := Mod_width) (Mod_height := Mod_height) (Mod_many := Mod_many) (Mod_size := Mod_size) (Mod_bit := Mod_bit) (Mod_single := Mod_single) (Mod_runs := Mod_runs) (Mod_longest := Mod_longest) (mf := mf) (x1 := 48 + x1) (x2 := 8) h) tw544 tw546 tw28 tw42 tw547 2 (by decide) ⟨Nat.le_of_ble_eq_true rfl, Nat.le_of_ble_eq_true rfl⟩ ⟨Nat.le_of_ble_eq_true rfl, Nat.le_of_ble_eq_true rfl⟩ ⟨rfl, rfl⟩ rfl rfl 0 rfl [0, 1] [] [0, 1] rfl rfl rfl rfl (by decide) rfl (fun _ => rfl) hl.1 rfl rfl (Nat.le_of_ble_eq_true rfl) d_Mod_sign_14 (fun u10 H locs h hw => ?_)
    refine lv_goto (tgt := 81) hx hb d_Mod_sign_17 (by decide) ?_
    exact retV (out := fun u => [e_Mod a Mod_thrown Mod_width Mod_height Mod_many u.1 u.2.1 Mod_single Mod_runs Mod_longest, e_ar a n cI 17 u.2.2]) (u := (u10.1, u10.2.1, u10.2.2)) E hr hlk hw h d_Mod_sign_81
