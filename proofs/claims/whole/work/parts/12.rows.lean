-- PicturePacker$Rows.cost(II)I
theorem d_Rows_cost_0 : decode prog_6_method_4_code 0 = .ok (.iconst 0, 1) := by decide +kernel
theorem d_Rows_cost_1 : decode prog_6_method_4_code 1 = .ok (.istore_n 3, 1) := by decide +kernel
theorem d_Rows_cost_2 : decode prog_6_method_4_code 2 = .ok (.iconst 0, 1) := by decide +kernel
theorem d_Rows_cost_3 : decode prog_6_method_4_code 3 = .ok (.istore 4, 2) := by decide +kernel
theorem d_Rows_cost_5 : decode prog_6_method_4_code 5 = .ok (.iload 4, 2) := by decide +kernel
theorem d_Rows_cost_7 : decode prog_6_method_4_code 7 = .ok (.aload_n 0, 1) := by decide +kernel
theorem d_Rows_cost_8 : decode prog_6_method_4_code 8 = .ok (.getfield 21, 3) := by decide +kernel
theorem d_Rows_cost_11 : decode prog_6_method_4_code 11 = .ok (.if_icmp .ge 37, 3) := by decide +kernel
theorem d_Rows_cost_14 : decode prog_6_method_4_code 14 = .ok (.aload_n 0, 1) := by decide +kernel
theorem d_Rows_cost_15 : decode prog_6_method_4_code 15 = .ok (.getfield 9, 3) := by decide +kernel
theorem d_Rows_cost_18 : decode prog_6_method_4_code 18 = .ok (.iload_n 1, 1) := by decide +kernel
theorem d_Rows_cost_19 : decode prog_6_method_4_code 19 = .ok (.iload_n 2, 1) := by decide +kernel
theorem d_Rows_cost_20 : decode prog_6_method_4_code 20 = .ok (.iload 4, 2) := by decide +kernel
theorem d_Rows_cost_22 : decode prog_6_method_4_code 22 = .ok (.iadd, 1) := by decide +kernel
theorem d_Rows_cost_23 : decode prog_6_method_4_code 23 = .ok (.invokevirtual 55, 3) := by decide +kernel
theorem d_Rows_cost_26 : decode prog_6_method_4_code 26 = .ok (.istore 5, 2) := by decide +kernel
theorem d_Rows_cost_28 : decode prog_6_method_4_code 28 = .ok (.iload_n 3, 1) := by decide +kernel
theorem d_Rows_cost_29 : decode prog_6_method_4_code 29 = .ok (.iload 5, 2) := by decide +kernel
theorem d_Rows_cost_31 : decode prog_6_method_4_code 31 = .ok (.sipush 256, 3) := by decide +kernel
theorem d_Rows_cost_34 : decode prog_6_method_4_code 34 = .ok (.iload 5, 2) := by decide +kernel
theorem d_Rows_cost_36 : decode prog_6_method_4_code 36 = .ok (.isub, 1) := by decide +kernel
theorem d_Rows_cost_37 : decode prog_6_method_4_code 37 = .ok (.invokestatic 58, 3) := by decide +kernel
theorem d_Rows_cost_40 : decode prog_6_method_4_code 40 = .ok (.iadd, 1) := by decide +kernel
theorem d_Rows_cost_41 : decode prog_6_method_4_code 41 = .ok (.istore_n 3, 1) := by decide +kernel
theorem d_Rows_cost_42 : decode prog_6_method_4_code 42 = .ok (.iinc 4 1, 3) := by decide +kernel
theorem d_Rows_cost_45 : decode prog_6_method_4_code 45 = .ok (.goto (-40), 3) := by decide +kernel
theorem d_Rows_cost_48 : decode prog_6_method_4_code 48 = .ok (.iload_n 3, 1) := by decide +kernel
theorem d_Rows_cost_49 : decode prog_6_method_4_code 49 = .ok (.ireturn, 1) := by decide +kernel
abbrev y_Rows_cost : MethodName := ⟨"PicturePacker$Rows", "cost", "(II)I"⟩
def wp_Rows_cost_5 (n : Nat → Nat) (Pic_stride : Int32) (Rows_rowLength : Int32) (pb : Nat → Int32) (x1 : Int32) (x2 : Int32) (post : Int32 → Unit → Prop) : Nat → Int32 → Int32 → Prop
  | 0 => fun _ _ => False
  | N + 1 => fun y3 y4 => ((Rows_rowLength : Int32) ≤ y4 → (post y3 ())) ∧ (¬ ((Rows_rowLength : Int32) ≤ y4) → (wp_Pic_lessGuess n Pic_stride pb x1 (x2 + y4) (fun r3 _ => ∀ z4 : Int32, z4 = (y3 + (if (256 - r3 : Int32) < r3 then 256 - r3 else r3)) → (∀ z5 : Int32, z5 = (y4 + 1) → (wp_Rows_cost_5 n Pic_stride Rows_rowLength pb x1 x2 post N z4 z5)))))
def wp_Rows_cost (n : Nat → Nat) (Pic_stride : Int32) (Rows_rowLength : Int32) (pb : Nat → Int32) (x1 : Int32) (x2 : Int32) (post : Int32 → Unit → Prop) : Prop := ∃ N6 : Nat, wp_Rows_cost_5 n Pic_stride Rows_rowLength pb x1 x2 post N6 0 0
set_option maxHeartbeats 2000000 in
set_option maxRecDepth 20000 in
theorem s_Rows_cost_5 {l : Launch} {dC : Nat → ClassId} {dI : Nat → Nat → Nat} {cI : ClassId} {tb : Tbs} {a n : Nat → Nat} {p : Program} {e : Env} {s : State} {m : MethodId} {args : Array Value} {below : List Frame} {meth : Method} {c : Code} {A : Nat → Prop} (E : CallFix p m c prog_6_method_4_code 6 s args TBL "PicturePacker$Rows") (hr : meth.sig.returnType = some .int) (hlk : meth.locks = false) {Pic_width : Int32} {Pic_height : Int32} {Pic_stride : Int32} {Rows_rowLength : Int32} {pb : Nat → Int32} {x1 : Int32} {x2 : Int32} {post : Int32 → Unit → Prop} : ∀ (N : Nat) (y3 : Int32) (y4 : Int32) (H : Heap) (locs : List Loc) (ls : Array Slot), Wl classes dC dI cI tb A s H locs [e_Pic a Pic_width Pic_height Pic_stride, e_Rows a Rows_rowLength, e_ar a n cI 8 pb] → lv_has ls 6 [(0, .ref (a 2)), (1, .int x1), (2, .int x2), (3, .int y3), (4, .int y4)] → wp_Rows_cost_5 n Pic_stride Rows_rowLength pb x1 x2 post N y3 y4 → W p l e ({ frames := 4, cells := 0, slots := 0, locals := 95 }) s m args below meth c H locs 0 0 (MQ below (va_Qi post (fun u => End0 classes dC dI cI A [e_Pic a Pic_width Pic_height Pic_stride, e_Rows a Rows_rowLength, e_ar a n cI 8 pb]) A) args s 0 0 A) (F0 m 5 ls []) := by
  obtain ⟨hx, hb, hml, hown, hts⟩ := id E
  intro N
  induction N with
  | zero =>
    intro _ _ H locs ls hw hl h
    exact absurd h id
  | succ N ih =>
    intro y3 y4 H locs ls hw hl h
    unfold wp_Rows_cost_5 at h
    refine lv_iload hx hb d_Rows_cost_5 (lv_at hl 4 rfl) ?_
    refine lv_aload_n hx hb d_Rows_cost_7 rfl (lv_at hl 0 rfl) ?_
    refine kget (v := .int Rows_rowLength) (T := F_Rows) E hw in_Rows rfl 1 3 rfl (by decide) tw98 rfl d_Rows_cost_8 ?_
    refine lv_icmp_ge (tgt := 48) hx hb d_Rows_cost_11 (by decide) (fun c1 => ?_) (fun c1 => ?_)
    · have h := h.1 c1
      refine lv_iload_n hx hb d_Rows_cost_48 rfl (lv_at hl 3 rfl) ?_
      exact retI (out := fun u => [e_Pic a Pic_width Pic_height Pic_stride, e_Rows a Rows_rowLength, e_ar a n cI 8 pb]) (u := ()) E hr hlk rfl hw h d_Rows_cost_49
    · have h := h.2 c1
      refine lv_aload_n hx hb d_Rows_cost_14 rfl (lv_at hl 0 rfl) ?_
      refine kget (v := .ref (a 1)) (T := F_Rows) E hw in_Rows rfl 1 2 rfl (by decide) tw97 rfl d_Rows_cost_15 ?_
      refine lv_iload_n hx hb d_Rows_cost_18 rfl (lv_at hl 1 rfl) ?_
      refine lv_iload_n hx hb d_Rows_cost_19 rfl (lv_at hl 2 rfl) ?_
      refine lv_iload hx hb d_Rows_cost_20 (lv_at hl 4 rfl) ?_
      refine lv_iadd hx hb d_Rows_cost_22 ?_
      refine kVi (y := y_Pic_lessGuess) (ws' := fun _ => [e_Pic a Pic_width Pic_height Pic_stride, e_Rows a Rows_rowLength, e_ar a n cI 8 pb]) (wr := [e_Rows a Rows_rowLength]) (As := [.int x1, .int (x2 + y4)]) (rest := []) E hw (c_Pic_lessGuess (l := l) (dC := dC) (dI := dI) (cI := cI) (tb := tb) (a := a) (n := n) (Pic_width := Pic_width) (Pic_height := Pic_height) (Pic_stride := Pic_stride) (pb := pb) (x1 := x1) (x2 := x2 + y4) h) tw270 tw271 tw272 tw34 tw273 2 (by decide) ⟨Nat.le_of_ble_eq_true rfl, Nat.le_of_ble_eq_true rfl⟩ ⟨Nat.le_of_ble_eq_true rfl, Nat.le_of_ble_eq_true rfl⟩ ⟨rfl, rfl⟩ rfl rfl 0 rfl [0, 2] [1] [1, 0, 2] rfl rfl rfl rfl (by decide) rfl (fun _ => rfl) hl.1 rfl rfl (Nat.le_of_ble_eq_true rfl) d_Rows_cost_23 (fun r3 u2 H locs h hw => ?_)
      refine lv_istore (lv' := [(5, .int r3), (0, .ref (a 2)), (1, .int x1), (2, .int x2), (3, .int y3), (4, .int y4)]) hx hb d_Rows_cost_26 hl (by decide) rfl (fun ls hl => ?_)
      refine lv_iload_n hx hb d_Rows_cost_28 rfl (lv_at hl 4 rfl) ?_
      refine lv_iload hx hb d_Rows_cost_29 (lv_at hl 0 rfl) ?_
      refine lv_sipush (v := 256) hx hb d_Rows_cost_31 (by decide) ?_
      refine lv_iload hx hb d_Rows_cost_34 (lv_at hl 0 rfl) ?_
      refine lv_isub hx hb d_Rows_cost_36 ?_
      refine kmin E hl.1 tw283 tw57 tw35 tw58 (Nat.le_of_ble_eq_true rfl) (Nat.le_of_ble_eq_true rfl) (Nat.le_of_ble_eq_true rfl) (Nat.le_of_ble_eq_true rfl) d_Rows_cost_37 ?_
      refine lv_iadd hx hb d_Rows_cost_40 ?_
      refine lv_topi (fun z4 ez4 => ?_)
      have h := h z4 ez4
      refine lv_istore_n (lv' := [(3, .int z4), (5, .int r3), (0, .ref (a 2)), (1, .int x1), (2, .int x2), (4, .int y4)]) hx hb d_Rows_cost_41 rfl hl (by decide) rfl (fun ls hl => ?_)
      obtain ⟨z5, ez5⟩ : ∃ z : Int32, z = y4 + 1 := ⟨_, rfl⟩
      have h := h z5 ez5
      refine lv_iinc (v := z5) (lv' := [(4, .int z5), (3, .int z4), (5, .int r3), (0, .ref (a 2)), (1, .int x1), (2, .int x2)]) hx hb d_Rows_cost_42 hl (k := 5) rfl (by rw [ez5]; exact congrArg (y4 + ·) (by decide)) (by decide) rfl (fun ls hl => ?_)
      refine lv_goto (tgt := 5) hx hb d_Rows_cost_45 (by decide) ?_
      exact ih z4 z5 _ _ ls hw (lv_sub hl [3, 4, 5, 1, 0] rfl) h
set_option maxHeartbeats 2000000 in
set_option maxRecDepth 20000 in
theorem c_Rows_cost {l : Launch} {dC : Nat → ClassId} {dI : Nat → Nat → Nat} {cI : ClassId} {tb : Tbs} {a n : Nat → Nat} {Pic_width : Int32} {Pic_height : Int32} {Pic_stride : Int32} {Rows_rowLength : Int32} {pb : Nat → Int32} {x1 : Int32} {x2 : Int32} {post : Int32 → Unit → Prop} (h : wp_Rows_cost n Pic_stride Rows_rowLength pb x1 x2 post) : CtI classes dC dI cI tb l y_Rows_cost prog_6_method_4_code 6 .int ({ frames := 4, cells := 0, slots := 0, locals := 95 }) [.ref (a 2), .int x1, .int x2] [e_Pic a Pic_width Pic_height Pic_stride, e_Rows a Rows_rowLength, e_ar a n cI 8 pb] (Unit) (fun _ => [e_Pic a Pic_width Pic_height Pic_stride, e_Rows a Rows_rowLength, e_ar a n cI 8 pb]) post := by
  refine startI (by decide) (Nat.le_of_ble_eq_true rfl) ?_
  intro p e s m below meth c ls E hr hlk hnm hl hw
  have hl : lv_has ls 6 [(0, .ref (a 2)), (1, .int x1), (2, .int x2)] := hl
  generalize va_A [e_Pic a Pic_width Pic_height Pic_stride, e_Rows a Rows_rowLength, e_ar a n cI 8 pb] s.heap.size = A at hw ⊢
  obtain ⟨hx, hb, hml, hown, hts⟩ := id E
  unfold wp_Rows_cost at h
  refine lv_iconst (v := 0) hx hb d_Rows_cost_0 (by decide) ?_
  refine lv_istore_n (lv' := [(3, .int 0), (0, .ref (a 2)), (1, .int x1), (2, .int x2)]) hx hb d_Rows_cost_1 rfl hl (by decide) rfl (fun ls hl => ?_)
  refine lv_iconst (v := 0) hx hb d_Rows_cost_2 (by decide) ?_
  refine lv_istore (lv' := [(4, .int 0), (3, .int 0), (0, .ref (a 2)), (1, .int x1), (2, .int x2)]) hx hb d_Rows_cost_3 hl (by decide) rfl (fun ls hl => ?_)
  obtain ⟨N6, h⟩ := h
  exact s_Rows_cost_5 (a := a) (n := n) (tb := tb) E hr hlk  N6 0 0 _ _ ls hw (lv_sub hl [2, 3, 4, 1, 0] rfl) h
-- PicturePacker$Rows.bestFilter(I)I
theorem d_Rows_bestFilter_0 : decode prog_6_method_3_code 0 = .ok (.iconst 0, 1) := by decide +kernel
theorem d_Rows_bestFilter_1 : decode prog_6_method_3_code 1 = .ok (.istore_n 2, 1) := by decide +kernel
theorem d_Rows_bestFilter_2 : decode prog_6_method_3_code 2 = .ok (.aload_n 0, 1) := by decide +kernel
theorem d_Rows_bestFilter_3 : decode prog_6_method_3_code 3 = .ok (.iconst 0, 1) := by decide +kernel
theorem d_Rows_bestFilter_4 : decode prog_6_method_3_code 4 = .ok (.iload_n 1, 1) := by decide +kernel
theorem d_Rows_bestFilter_5 : decode prog_6_method_3_code 5 = .ok (.invokevirtual 52, 3) := by decide +kernel
theorem d_Rows_bestFilter_8 : decode prog_6_method_3_code 8 = .ok (.istore_n 3, 1) := by decide +kernel
theorem d_Rows_bestFilter_9 : decode prog_6_method_3_code 9 = .ok (.iconst 1, 1) := by decide +kernel
theorem d_Rows_bestFilter_10 : decode prog_6_method_3_code 10 = .ok (.istore 4, 2) := by decide +kernel
theorem d_Rows_bestFilter_12 : decode prog_6_method_3_code 12 = .ok (.iload 4, 2) := by decide +kernel
theorem d_Rows_bestFilter_14 : decode prog_6_method_3_code 14 = .ok (.iconst 5, 1) := by decide +kernel
theorem d_Rows_bestFilter_15 : decode prog_6_method_3_code 15 = .ok (.if_icmp .ge 30, 3) := by decide +kernel
theorem d_Rows_bestFilter_18 : decode prog_6_method_3_code 18 = .ok (.aload_n 0, 1) := by decide +kernel
theorem d_Rows_bestFilter_19 : decode prog_6_method_3_code 19 = .ok (.iload 4, 2) := by decide +kernel
theorem d_Rows_bestFilter_21 : decode prog_6_method_3_code 21 = .ok (.iload_n 1, 1) := by decide +kernel
theorem d_Rows_bestFilter_22 : decode prog_6_method_3_code 22 = .ok (.invokevirtual 52, 3) := by decide +kernel
theorem d_Rows_bestFilter_25 : decode prog_6_method_3_code 25 = .ok (.istore 5, 2) := by decide +kernel
theorem d_Rows_bestFilter_27 : decode prog_6_method_3_code 27 = .ok (.iload 5, 2) := by decide +kernel
theorem d_Rows_bestFilter_29 : decode prog_6_method_3_code 29 = .ok (.iload_n 3, 1) := by decide +kernel
theorem d_Rows_bestFilter_30 : decode prog_6_method_3_code 30 = .ok (.if_icmp .ge 9, 3) := by decide +kernel
theorem d_Rows_bestFilter_33 : decode prog_6_method_3_code 33 = .ok (.iload 5, 2) := by decide +kernel
theorem d_Rows_bestFilter_35 : decode prog_6_method_3_code 35 = .ok (.istore_n 3, 1) := by decide +kernel
theorem d_Rows_bestFilter_36 : decode prog_6_method_3_code 36 = .ok (.iload 4, 2) := by decide +kernel
theorem d_Rows_bestFilter_38 : decode prog_6_method_3_code 38 = .ok (.istore_n 2, 1) := by decide +kernel
theorem d_Rows_bestFilter_39 : decode prog_6_method_3_code 39 = .ok (.iinc 4 1, 3) := by decide +kernel
theorem d_Rows_bestFilter_42 : decode prog_6_method_3_code 42 = .ok (.goto (-30), 3) := by decide +kernel
theorem d_Rows_bestFilter_45 : decode prog_6_method_3_code 45 = .ok (.iload_n 2, 1) := by decide +kernel
theorem d_Rows_bestFilter_46 : decode prog_6_method_3_code 46 = .ok (.ireturn, 1) := by decide +kernel
abbrev y_Rows_bestFilter : MethodName := ⟨"PicturePacker$Rows", "bestFilter", "(I)I"⟩
def wp_Rows_bestFilter_12 (n : Nat → Nat) (Pic_stride : Int32) (Rows_rowLength : Int32) (pb : Nat → Int32) (x1 : Int32) (post : Int32 → Unit → Prop) : Nat → Int32 → Int32 → Int32 → Prop
  | 0 => fun _ _ _ => False
  | N + 1 => fun y2 y3 y4 => ((5 : Int32) ≤ y4 → (post y2 ())) ∧ (¬ ((5 : Int32) ≤ y4) → (wp_Rows_cost n Pic_stride Rows_rowLength pb y4 x1 (fun r5 _ => ((y3 : Int32) ≤ r5 → (∀ z7 : Int32, z7 = (y4 + 1) → (wp_Rows_bestFilter_12 n Pic_stride Rows_rowLength pb x1 post N y2 y3 z7))) ∧ (¬ ((y3 : Int32) ≤ r5) → (∀ z8 : Int32, z8 = (y4 + 1) → (wp_Rows_bestFilter_12 n Pic_stride Rows_rowLength pb x1 post N y4 r5 z8))))))
def wp_Rows_bestFilter (n : Nat → Nat) (Pic_stride : Int32) (Rows_rowLength : Int32) (pb : Nat → Int32) (x1 : Int32) (post : Int32 → Unit → Prop) : Prop := wp_Rows_cost n Pic_stride Rows_rowLength pb 0 x1 (fun r2 _ => ∃ N9 : Nat, wp_Rows_bestFilter_12 n Pic_stride Rows_rowLength pb x1 post N9 0 r2 1)
set_option maxHeartbeats 2000000 in
set_option maxRecDepth 20000 in
theorem s_Rows_bestFilter_12 {l : Launch} {dC : Nat → ClassId} {dI : Nat → Nat → Nat} {cI : ClassId} {tb : Tbs} {a n : Nat → Nat} {p : Program} {e : Env} {s : State} {m : MethodId} {args : Array Value} {below : List Frame} {meth : Method} {c : Code} {A : Nat → Prop} (E : CallFix p m c prog_6_method_3_code 6 s args TBL "PicturePacker$Rows") (hr : meth.sig.returnType = some .int) (hlk : meth.locks = false) {Pic_width : Int32} {Pic_height : Int32} {Pic_stride : Int32} {Rows_rowLength : Int32} {pb : Nat → Int32} {x1 : Int32} {post : Int32 → Unit → Prop} : ∀ (N : Nat) (y2 : Int32) (y3 : Int32) (y4 : Int32) (H : Heap) (locs : List Loc) (ls : Array Slot), Wl classes dC dI cI tb A s H locs [e_Pic a Pic_width Pic_height Pic_stride, e_Rows a Rows_rowLength, e_ar a n cI 8 pb] → lv_has ls 6 [(0, .ref (a 2)), (1, .int x1), (2, .int y2), (3, .int y3), (4, .int y4)] → wp_Rows_bestFilter_12 n Pic_stride Rows_rowLength pb x1 post N y2 y3 y4 → W p l e ({ frames := 5, cells := 0, slots := 0, locals := 120 }) s m args below meth c H locs 0 0 (MQ below (va_Qi post (fun u => End0 classes dC dI cI A [e_Pic a Pic_width Pic_height Pic_stride, e_Rows a Rows_rowLength, e_ar a n cI 8 pb]) A) args s 0 0 A) (F0 m 12 ls []) := by
  obtain ⟨hx, hb, hml, hown, hts⟩ := id E
  intro N
  induction N with
  | zero =>
    intro _ _ _ H locs ls hw hl h
    exact absurd h id
  | succ N ih =>
    intro y2 y3 y4 H locs ls hw hl h
    unfold wp_Rows_bestFilter_12 at h
    refine lv_iload hx hb d_Rows_bestFilter_12 (lv_at hl 4 rfl) ?_
    refine lv_iconst (v := 5) hx hb d_Rows_bestFilter_14 (by decide) ?_
    refine lv_icmp_ge (tgt := 45) hx hb d_Rows_bestFilter_15 (by decide) (fun c3 => ?_) (fun c3 => ?_)
    · have h := h.1 c3
      refine lv_iload_n hx hb d_Rows_bestFilter_45 rfl (lv_at hl 2 rfl) ?_
      exact retI (out := fun u => [e_Pic a Pic_width Pic_height Pic_stride, e_Rows a Rows_rowLength, e_ar a n cI 8 pb]) (u := ()) E hr hlk rfl hw h d_Rows_bestFilter_46
    · have h := h.2 c3
      refine lv_aload_n hx hb d_Rows_bestFilter_18 rfl (lv_at hl 0 rfl) ?_
      refine lv_iload hx hb d_Rows_bestFilter_19 (lv_at hl 4 rfl) ?_
      refine lv_iload_n hx hb d_Rows_bestFilter_21 rfl (lv_at hl 1 rfl) ?_
      refine kVi (y := y_Rows_cost) (ws' := fun _ => [e_Pic a Pic_width Pic_height Pic_stride, e_Rows a Rows_rowLength, e_ar a n cI 8 pb]) (wr := []) (As := [.int y4, .int x1]) (rest := []) E hw (c_Rows_cost (l := l) (dC := dC) (dI := dI) (cI := cI) (tb := tb) (a := a) (n := n) (Pic_width := Pic_width) (Pic_height := Pic_height) (Pic_stride := Pic_stride) (Rows_rowLength := Rows_rowLength) (pb := pb) (x1 := y4) (x2 := x1) h) tw266 tw268 tw1 tw36 tw269 2 (by decide) ⟨Nat.le_of_ble_eq_true rfl, Nat.le_of_ble_eq_true rfl⟩ ⟨Nat.le_of_ble_eq_true rfl, Nat.le_of_ble_eq_true rfl⟩ ⟨rfl, rfl⟩ rfl rfl 1 rfl [0, 1, 2] [] [0, 1, 2] rfl rfl rfl rfl (by decide) rfl (fun _ => rfl) hl.1 rfl rfl (Nat.le_of_ble_eq_true rfl) d_Rows_bestFilter_22 (fun r5 u4 H locs h hw => ?_)
      refine lv_istore (lv' := [(5, .int r5), (0, .ref (a 2)), (1, .int x1), (2, .int y2), (3, .int y3), (4, .int y4)]) hx hb d_Rows_bestFilter_25 hl (by decide) rfl (fun ls hl => ?_)
      refine lv_iload hx hb d_Rows_bestFilter_27 (lv_at hl 0 rfl) ?_
      refine lv_iload_n hx hb d_Rows_bestFilter_29 rfl (lv_at hl 4 rfl) ?_
      refine lv_icmp_ge (tgt := 39) hx hb d_Rows_bestFilter_30 (by decide) (fun c6 => ?_) (fun c6 => ?_)
      · have h := h.1 c6
        obtain ⟨z7, ez7⟩ : ∃ z : Int32, z = y4 + 1 := ⟨_, rfl⟩
        have h := h z7 ez7
        refine lv_iinc (v := z7) (lv' := [(4, .int z7), (5, .int r5), (0, .ref (a 2)), (1, .int x1), (2, .int y2), (3, .int y3)]) hx hb d_Rows_bestFilter_39 hl (k := 5) rfl (by rw [ez7]; exact congrArg (y4 + ·) (by decide)) (by decide) rfl (fun ls hl => ?_)
        refine lv_goto (tgt := 12) hx hb d_Rows_bestFilter_42 (by decide) ?_
        exact ih y2 y3 z7 _ _ ls hw (lv_sub hl [2, 3, 4, 5, 0] rfl) h
      · have h := h.2 c6
        refine lv_iload hx hb d_Rows_bestFilter_33 (lv_at hl 0 rfl) ?_
        refine lv_istore_n (lv' := [(3, .int r5), (5, .int r5), (0, .ref (a 2)), (1, .int x1), (2, .int y2), (4, .int y4)]) hx hb d_Rows_bestFilter_35 rfl hl (by decide) rfl (fun ls hl => ?_)
        refine lv_iload hx hb d_Rows_bestFilter_36 (lv_at hl 5 rfl) ?_
        refine lv_istore_n (lv' := [(2, .int y4), (3, .int r5), (5, .int r5), (0, .ref (a 2)), (1, .int x1), (4, .int y4)]) hx hb d_Rows_bestFilter_38 rfl hl (by decide) rfl (fun ls hl => ?_)
        obtain ⟨z8, ez8⟩ : ∃ z : Int32, z = y4 + 1 := ⟨_, rfl⟩
        have h := h z8 ez8
        refine lv_iinc (v := z8) (lv' := [(4, .int z8), (2, .int y4), (3, .int r5), (5, .int r5), (0, .ref (a 2)), (1, .int x1)]) hx hb d_Rows_bestFilter_39 hl (k := 5) rfl (by rw [ez8]; exact congrArg (y4 + ·) (by decide)) (by decide) rfl (fun ls hl => ?_)
        refine lv_goto (tgt := 12) hx hb d_Rows_bestFilter_42 (by decide) ?_
        exact ih y4 r5 z8 _ _ ls hw (lv_sub hl [4, 5, 1, 2, 0] rfl) h
set_option maxHeartbeats 2000000 in
set_option maxRecDepth 20000 in
theorem c_Rows_bestFilter {l : Launch} {dC : Nat → ClassId} {dI : Nat → Nat → Nat} {cI : ClassId} {tb : Tbs} {a n : Nat → Nat} {Pic_width : Int32} {Pic_height : Int32} {Pic_stride : Int32} {Rows_rowLength : Int32} {pb : Nat → Int32} {x1 : Int32} {post : Int32 → Unit → Prop} (h : wp_Rows_bestFilter n Pic_stride Rows_rowLength pb x1 post) : CtI classes dC dI cI tb l y_Rows_bestFilter prog_6_method_3_code 6 .int ({ frames := 5, cells := 0, slots := 0, locals := 120 }) [.ref (a 2), .int x1] [e_Pic a Pic_width Pic_height Pic_stride, e_Rows a Rows_rowLength, e_ar a n cI 8 pb] (Unit) (fun _ => [e_Pic a Pic_width Pic_height Pic_stride, e_Rows a Rows_rowLength, e_ar a n cI 8 pb]) post := by
  refine startI (by decide) (Nat.le_of_ble_eq_true rfl) ?_
  intro p e s m below meth c ls E hr hlk hnm hl hw
  have hl : lv_has ls 6 [(0, .ref (a 2)), (1, .int x1)] := hl
  generalize va_A [e_Pic a Pic_width Pic_height Pic_stride, e_Rows a Rows_rowLength, e_ar a n cI 8 pb] s.heap.size = A at hw ⊢
  obtain ⟨hx, hb, hml, hown, hts⟩ := id E
  unfold wp_Rows_bestFilter at h
  refine lv_iconst (v := 0) hx hb d_Rows_bestFilter_0 (by decide) ?_
  refine lv_istore_n (lv' := [(2, .int 0), (0, .ref (a 2)), (1, .int x1)]) hx hb d_Rows_bestFilter_1 rfl hl (by decide) rfl (fun ls hl => ?_)
  refine lv_aload_n hx hb d_Rows_bestFilter_2 rfl (lv_at hl 1 rfl) ?_
  refine lv_iconst (v := 0) hx hb d_Rows_bestFilter_3 (by decide) ?_
  refine lv_iload_n hx hb d_Rows_bestFilter_4 rfl (lv_at hl 2 rfl) ?_
  refine kVi (y := y_Rows_cost) (ws' := fun _ => [e_Pic a Pic_width Pic_height Pic_stride, e_Rows a Rows_rowLength, e_ar a n cI 8 pb]) (wr := []) (As := [.int 0, .int x1]) (rest := []) E hw (c_Rows_cost (l := l) (dC := dC) (dI := dI) (cI := cI) (tb := tb) (a := a) (n := n) (Pic_width := Pic_width) (Pic_height := Pic_height) (Pic_stride := Pic_stride) (Rows_rowLength := Rows_rowLength) (pb := pb) (x1 := 0) (x2 := x1) h) tw266 tw268 tw1 tw36 tw269 2 (by decide) ⟨Nat.le_of_ble_eq_true rfl, Nat.le_of_ble_eq_true rfl⟩ ⟨Nat.le_of_ble_eq_true rfl, Nat.le_of_ble_eq_true rfl⟩ ⟨rfl, rfl⟩ rfl rfl 1 rfl [0, 1, 2] [] [0, 1, 2] rfl rfl rfl rfl (by decide) rfl (fun _ => rfl) hl.1 rfl rfl (Nat.le_of_ble_eq_true rfl) d_Rows_bestFilter_5 (fun r2 u1 H locs h hw => ?_)
  refine lv_istore_n (lv' := [(3, .int r2), (2, .int 0), (0, .ref (a 2)), (1, .int x1)]) hx hb d_Rows_bestFilter_8 rfl hl (by decide) rfl (fun ls hl => ?_)
  refine lv_iconst (v := 1) hx hb d_Rows_bestFilter_9 (by decide) ?_
  refine lv_istore (lv' := [(4, .int 1), (3, .int r2), (2, .int 0), (0, .ref (a 2)), (1, .int x1)]) hx hb d_Rows_bestFilter_10 hl (by decide) rfl (fun ls hl => ?_)
  obtain ⟨N9, h⟩ := h
  exact s_Rows_bestFilter_12 (a := a) (n := n) (tb := tb) E hr hlk  N9 0 r2 1 _ _ ls hw (lv_sub hl [3, 4, 2, 1, 0] rfl) h
-- PicturePacker$Rows.lay(III)V
theorem d_Rows_lay_0 : decode prog_6_method_5_code 0 = .ok (.iload_n 1, 1) := by decide +kernel
theorem d_Rows_lay_1 : decode prog_6_method_5_code 1 = .ok (.aload_n 0, 1) := by decide +kernel
theorem d_Rows_lay_2 : decode prog_6_method_5_code 2 = .ok (.getfield 21, 3) := by decide +kernel
theorem d_Rows_lay_5 : decode prog_6_method_5_code 5 = .ok (.iconst 1, 1) := by decide +kernel
theorem d_Rows_lay_6 : decode prog_6_method_5_code 6 = .ok (.iadd, 1) := by decide +kernel
theorem d_Rows_lay_7 : decode prog_6_method_5_code 7 = .ok (.imul, 1) := by decide +kernel
theorem d_Rows_lay_8 : decode prog_6_method_5_code 8 = .ok (.istore 4, 2) := by decide +kernel
theorem d_Rows_lay_10 : decode prog_6_method_5_code 10 = .ok (.iload 4, 2) := by decide +kernel
theorem d_Rows_lay_12 : decode prog_6_method_5_code 12 = .ok (.ifCond .lt 18, 3) := by decide +kernel
theorem d_Rows_lay_15 : decode prog_6_method_5_code 15 = .ok (.iload 4, 2) := by decide +kernel
theorem d_Rows_lay_17 : decode prog_6_method_5_code 17 = .ok (.aload_n 0, 1) := by decide +kernel
theorem d_Rows_lay_18 : decode prog_6_method_5_code 18 = .ok (.getfield 21, 3) := by decide +kernel
theorem d_Rows_lay_21 : decode prog_6_method_5_code 21 = .ok (.iadd, 1) := by decide +kernel
theorem d_Rows_lay_22 : decode prog_6_method_5_code 22 = .ok (.aload_n 0, 1) := by decide +kernel
theorem d_Rows_lay_23 : decode prog_6_method_5_code 23 = .ok (.getfield 27, 3) := by decide +kernel
theorem d_Rows_lay_26 : decode prog_6_method_5_code 26 = .ok (.arraylength, 1) := by decide +kernel
theorem d_Rows_lay_27 : decode prog_6_method_5_code 27 = .ok (.if_icmp .lt 4, 3) := by decide +kernel
theorem d_Rows_lay_30 : decode prog_6_method_5_code 30 = .ok (.return_, 1) := by decide +kernel
theorem d_Rows_lay_31 : decode prog_6_method_5_code 31 = .ok (.aload_n 0, 1) := by decide +kernel
theorem d_Rows_lay_32 : decode prog_6_method_5_code 32 = .ok (.getfield 27, 3) := by decide +kernel
theorem d_Rows_lay_35 : decode prog_6_method_5_code 35 = .ok (.iload 4, 2) := by decide +kernel
theorem d_Rows_lay_37 : decode prog_6_method_5_code 37 = .ok (.iload_n 2, 1) := by decide +kernel
theorem d_Rows_lay_38 : decode prog_6_method_5_code 38 = .ok (.iastore, 1) := by decide +kernel
theorem d_Rows_lay_39 : decode prog_6_method_5_code 39 = .ok (.iconst 0, 1) := by decide +kernel
theorem d_Rows_lay_40 : decode prog_6_method_5_code 40 = .ok (.istore 5, 2) := by decide +kernel
theorem d_Rows_lay_42 : decode prog_6_method_5_code 42 = .ok (.iload 5, 2) := by decide +kernel
theorem d_Rows_lay_44 : decode prog_6_method_5_code 44 = .ok (.aload_n 0, 1) := by decide +kernel
theorem d_Rows_lay_45 : decode prog_6_method_5_code 45 = .ok (.getfield 21, 3) := by decide +kernel
theorem d_Rows_lay_48 : decode prog_6_method_5_code 48 = .ok (.if_icmp .ge 33, 3) := by decide +kernel
theorem d_Rows_lay_51 : decode prog_6_method_5_code 51 = .ok (.aload_n 0, 1) := by decide +kernel
theorem d_Rows_lay_52 : decode prog_6_method_5_code 52 = .ok (.getfield 27, 3) := by decide +kernel
theorem d_Rows_lay_55 : decode prog_6_method_5_code 55 = .ok (.iload 4, 2) := by decide +kernel
theorem d_Rows_lay_57 : decode prog_6_method_5_code 57 = .ok (.iconst 1, 1) := by decide +kernel
theorem d_Rows_lay_58 : decode prog_6_method_5_code 58 = .ok (.iadd, 1) := by decide +kernel
theorem d_Rows_lay_59 : decode prog_6_method_5_code 59 = .ok (.iload 5, 2) := by decide +kernel
theorem d_Rows_lay_61 : decode prog_6_method_5_code 61 = .ok (.iadd, 1) := by decide +kernel
theorem d_Rows_lay_62 : decode prog_6_method_5_code 62 = .ok (.aload_n 0, 1) := by decide +kernel
theorem d_Rows_lay_63 : decode prog_6_method_5_code 63 = .ok (.getfield 9, 3) := by decide +kernel
theorem d_Rows_lay_66 : decode prog_6_method_5_code 66 = .ok (.iload_n 2, 1) := by decide +kernel
theorem d_Rows_lay_67 : decode prog_6_method_5_code 67 = .ok (.iload_n 3, 1) := by decide +kernel
theorem d_Rows_lay_68 : decode prog_6_method_5_code 68 = .ok (.iload 5, 2) := by decide +kernel
theorem d_Rows_lay_70 : decode prog_6_method_5_code 70 = .ok (.iadd, 1) := by decide +kernel
theorem d_Rows_lay_71 : decode prog_6_method_5_code 71 = .ok (.invokevirtual 55, 3) := by decide +kernel
theorem d_Rows_lay_74 : decode prog_6_method_5_code 74 = .ok (.iastore, 1) := by decide +kernel
theorem d_Rows_lay_75 : decode prog_6_method_5_code 75 = .ok (.iinc 5 1, 3) := by decide +kernel
theorem d_Rows_lay_78 : decode prog_6_method_5_code 78 = .ok (.goto (-36), 3) := by decide +kernel
theorem d_Rows_lay_81 : decode prog_6_method_5_code 81 = .ok (.return_, 1) := by decide +kernel
abbrev y_Rows_lay : MethodName := ⟨"PicturePacker$Rows", "lay", "(III)V"⟩
def wp_Rows_lay_42 (n : Nat → Nat) (Pic_stride : Int32) (Rows_rowLength : Int32) (pb : Nat → Int32) (x1 : Int32) (x2 : Int32) (x3 : Int32) (post : ((Nat → Int32)) → Prop) : Nat → (Nat → Int32) → Int32 → Int32 → Prop
  | 0 => fun _ _ _ => False
  | N + 1 => fun rb y4 y5 => ((Rows_rowLength : Int32) ≤ y5 → (post rb)) ∧ (¬ ((Rows_rowLength : Int32) ≤ y5) → (wp_Pic_lessGuess n Pic_stride pb x2 (x3 + y5) (fun r8 _ => vp_in ((y4 + 1) + y5) (n 9) ∧ (∀ f10 : Nat → Int32, f10 = upd rb ((y4 + 1) + y5 : Int32).toNatClampNeg r8 → (∀ z11 : Int32, z11 = (y5 + 1) → (wp_Rows_lay_42 n Pic_stride Rows_rowLength pb x1 x2 x3 post N f10 y4 z11))))))
def wp_Rows_lay (n : Nat → Nat) (Pic_stride : Int32) (Rows_rowLength : Int32) (pb : Nat → Int32) (rb : Nat → Int32) (x1 : Int32) (x2 : Int32) (x3 : Int32) (post : ((Nat → Int32)) → Prop) : Prop := ∀ z1 : Int32, z1 = (x1 * (Rows_rowLength + 1)) → (((z1 : Int32) < 0 → (post rb)) ∧ (¬ ((z1 : Int32) < 0) → (((z1 + Rows_rowLength : Int32) < (nI (n 9)) → (vp_in z1 (n 9) ∧ (∀ f5 : Nat → Int32, f5 = upd rb (z1 : Int32).toNatClampNeg x2 → (∃ N12 : Nat, wp_Rows_lay_42 n Pic_stride Rows_rowLength pb x1 x2 x3 post N12 f5 z1 0)))) ∧ (¬ ((z1 + Rows_rowLength : Int32) < (nI (n 9))) → (post rb)))))
set_option maxHeartbeats 2000000 in
set_option maxRecDepth 20000 in
theorem s_Rows_lay_42 {l : Launch} {dC : Nat → ClassId} {dI : Nat → Nat → Nat} {cI : ClassId} {tb : Tbs} {a n : Nat → Nat} {p : Program} {e : Env} {s : State} {m : MethodId} {args : Array Value} {below : List Frame} {meth : Method} {c : Code} {A : Nat → Prop} (E : CallFix p m c prog_6_method_5_code 6 s args TBL "PicturePacker$Rows") (hr : meth.sig.returnType = none) (hlk : meth.locks = false) {Pic_width : Int32} {Pic_height : Int32} {Pic_stride : Int32} {Rows_rowLength : Int32} {pb : Nat → Int32} {x1 : Int32} {x2 : Int32} {x3 : Int32} {post : ((Nat → Int32)) → Prop} : ∀ (N : Nat) (rb : Nat → Int32) (y4 : Int32) (y5 : Int32) (H : Heap) (locs : List Loc) (ls : Array Slot), Wl classes dC dI cI tb A s H locs [e_Pic a Pic_width Pic_height Pic_stride, e_Rows a Rows_rowLength, e_ar a n cI 8 pb, e_ar a n cI 9 rb] → lv_has ls 6 [(0, .ref (a 2)), (2, .int x2), (3, .int x3), (4, .int y4), (5, .int y5)] → wp_Rows_lay_42 n Pic_stride Rows_rowLength pb x1 x2 x3 post N rb y4 y5 → W p l e ({ frames := 4, cells := 0, slots := 0, locals := 95 }) s m args below meth c H locs 0 0 (MQ below (va_Qv post (fun u => End0 classes dC dI cI A [e_Pic a Pic_width Pic_height Pic_stride, e_Rows a Rows_rowLength, e_ar a n cI 8 pb, e_ar a n cI 9 u]) A) args s 0 0 A) (F0 m 42 ls []) := by
  obtain ⟨hx, hb, hml, hown, hts⟩ := id E
  intro N
  induction N with
  | zero =>
    intro _ _ _ H locs ls hw hl h
    exact absurd h id
  | succ N ih =>
    intro rb y4 y5 H locs ls hw hl h
    unfold wp_Rows_lay_42 at h
    refine lv_iload hx hb d_Rows_lay_42 (lv_at hl 4 rfl) ?_
    refine lv_aload_n hx hb d_Rows_lay_44 rfl (lv_at hl 0 rfl) ?_
    refine kget (v := .int Rows_rowLength) (T := F_Rows) E hw in_Rows rfl 1 3 rfl (by decide) tw98 rfl d_Rows_lay_45 ?_
    refine lv_icmp_ge (tgt := 81) hx hb d_Rows_lay_48 (by decide) (fun c6 => ?_) (fun c6 => ?_)
    · have h := h.1 c6
      exact retV (out := fun u => [e_Pic a Pic_width Pic_height Pic_stride, e_Rows a Rows_rowLength, e_ar a n cI 8 pb, e_ar a n cI 9 u]) (u := rb) E hr hlk hw h d_Rows_lay_81
    · have h := h.2 c6
      refine lv_aload_n hx hb d_Rows_lay_51 rfl (lv_at hl 0 rfl) ?_
      refine kget (v := .ref (a 9)) (T := F_Rows) E hw in_Rows rfl 1 0 rfl (by decide) tw93 rfl d_Rows_lay_52 ?_
      refine lv_iload hx hb d_Rows_lay_55 (lv_at hl 3 rfl) ?_
      refine lv_iconst (v := 1) hx hb d_Rows_lay_57 (by decide) ?_
      refine lv_iadd hx hb d_Rows_lay_58 ?_
      refine lv_iload hx hb d_Rows_lay_59 (lv_at hl 4 rfl) ?_
      refine lv_iadd hx hb d_Rows_lay_61 ?_
      refine lv_aload_n hx hb d_Rows_lay_62 rfl (lv_at hl 0 rfl) ?_
      refine kget (v := .ref (a 1)) (T := F_Rows) E hw in_Rows rfl 1 2 rfl (by decide) tw97 rfl d_Rows_lay_63 ?_
      refine lv_iload_n hx hb d_Rows_lay_66 rfl (lv_at hl 1 rfl) ?_
      refine lv_iload_n hx hb d_Rows_lay_67 rfl (lv_at hl 2 rfl) ?_
      refine lv_iload hx hb d_Rows_lay_68 (lv_at hl 4 rfl) ?_
      refine lv_iadd hx hb d_Rows_lay_70 ?_
      refine kVi (y := y_Pic_lessGuess) (ws' := fun _ => [e_Pic a Pic_width Pic_height Pic_stride, e_Rows a Rows_rowLength, e_ar a n cI 8 pb, e_ar a n cI 9 rb]) (wr := [e_Rows a Rows_rowLength, e_ar a n cI 9 rb]) (As := [.int x2, .int (x3 + y5)]) (rest := [.int ((y4 + 1) + y5), .ref (a 9)]) E hw (c_Pic_lessGuess (l := l) (dC := dC) (dI := dI) (cI := cI) (tb := tb) (a := a) (n := n) (Pic_width := Pic_width) (Pic_height := Pic_height) (Pic_stride := Pic_stride) (pb := pb) (x1 := x2) (x2 := x3 + y5) h) tw270 tw271 tw272 tw34 tw273 2 (by decide) ⟨Nat.le_of_ble_eq_true rfl, Nat.le_of_ble_eq_true rfl⟩ ⟨Nat.le_of_ble_eq_true rfl, Nat.le_of_ble_eq_true rfl⟩ ⟨rfl, rfl⟩ rfl rfl 0 rfl [0, 2] [1, 3] [2, 0, 3, 1] rfl rfl rfl rfl (by decide) rfl (fun _ => rfl) hl.1 rfl rfl (Nat.le_of_ble_eq_true rfl) d_Rows_lay_71 (fun r8 u7 H locs h hw => ?_)
      obtain ⟨b9, h⟩ := h
      obtain ⟨f10, ef10⟩ : ∃ z : Nat → Int32, z = upd rb ((y4 + 1) + y5 : Int32).toNatClampNeg r8 := ⟨_, rfl⟩
      have h := h f10 ef10
      refine kast (ws' := [e_Pic a Pic_width Pic_height Pic_stride, e_Rows a Rows_rowLength, e_ar a n cI 8 pb, e_ar a n cI 9 f10]) E hw 3 rfl b9 (by rw [ef10]; rfl) d_Rows_lay_74 (fun H locs hw => ?_)
      obtain ⟨z11, ez11⟩ : ∃ z : Int32, z = y5 + 1 := ⟨_, rfl⟩
      have h := h z11 ez11
      refine lv_iinc (v := z11) (lv' := [(5, .int z11), (0, .ref (a 2)), (2, .int x2), (3, .int x3), (4, .int y4)]) hx hb d_Rows_lay_75 hl (k := 4) rfl (by rw [ez11]; exact congrArg (y5 + ·) (by decide)) (by decide) rfl (fun ls hl => ?_)
      refine lv_goto (tgt := 42) hx hb d_Rows_lay_78 (by decide) ?_
      exact ih f10 y4 z11 _ _ ls hw (lv_sub hl [1, 2, 3, 4, 0] rfl) h
set_option maxHeartbeats 2000000 in
set_option maxRecDepth 20000 in
theorem c_Rows_lay {l : Launch} {dC : Nat → ClassId} {dI : Nat → Nat → Nat} {cI : ClassId} {tb : Tbs} {a n : Nat → Nat} {Pic_width : Int32} {Pic_height : Int32} {Pic_stride : Int32} {Rows_rowLength : Int32} {pb : Nat → Int32} {rb : Nat → Int32} {x1 : Int32} {x2 : Int32} {x3 : Int32} {post : ((Nat → Int32)) → Prop} (h : wp_Rows_lay n Pic_stride Rows_rowLength pb rb x1 x2 x3 post) : CtV classes dC dI cI tb l y_Rows_lay prog_6_method_5_code 6 ({ frames := 4, cells := 0, slots := 0, locals := 95 }) [.ref (a 2), .int x1, .int x2, .int x3] [e_Pic a Pic_width Pic_height Pic_stride, e_Rows a Rows_rowLength, e_ar a n cI 8 pb, e_ar a n cI 9 rb] ((Nat → Int32)) (fun u => [e_Pic a Pic_width Pic_height Pic_stride, e_Rows a Rows_rowLength, e_ar a n cI 8 pb, e_ar a n cI 9 u]) post := by
  refine startV (by decide) (Nat.le_of_ble_eq_true rfl) ?_
  intro p e s m below meth c ls E hr hlk hnm hl hw
  have hl : lv_has ls 6 [(0, .ref (a 2)), (1, .int x1), (2, .int x2), (3, .int x3)] := hl
  generalize va_A [e_Pic a Pic_width Pic_height Pic_stride, e_Rows a Rows_rowLength, e_ar a n cI 8 pb, e_ar a n cI 9 rb] s.heap.size = A at hw ⊢
  obtain ⟨hx, hb, hml, hown, hts⟩ := id E
  unfold wp_Rows_lay at h
  refine lv_iload_n hx hb d_Rows_lay_0 rfl (lv_at hl 1 rfl) ?_
  refine lv_aload_n hx hb d_Rows_lay_1 rfl (lv_at hl 0 rfl) ?_
  refine kget (v := .int Rows_rowLength) (T := F_Rows) E hw in_Rows rfl 1 3 rfl (by decide) tw98 rfl d_Rows_lay_2 ?_
  refine lv_iconst (v := 1) hx hb d_Rows_lay_5 (by decide) ?_
  refine lv_iadd hx hb d_Rows_lay_6 ?_
  refine lv_imul hx hb d_Rows_lay_7 ?_
  refine lv_topi (fun z1 ez1 => ?_)
  have h := h z1 ez1
  refine lv_istore (lv' := [(4, .int z1), (0, .ref (a 2)), (1, .int x1), (2, .int x2), (3, .int x3)]) hx hb d_Rows_lay_8 hl (by decide) rfl (fun ls hl => ?_)
  refine lv_iload hx hb d_Rows_lay_10 (lv_at hl 0 rfl) ?_
  refine lv_if_lt (tgt := 30) hx hb d_Rows_lay_12 (by decide) (fun c2 => ?_) (fun c2 => ?_)
  · have h := h.1 c2
    exact retV (out := fun u => [e_Pic a Pic_width Pic_height Pic_stride, e_Rows a Rows_rowLength, e_ar a n cI 8 pb, e_ar a n cI 9 u]) (u := rb) E hr hlk hw h d_Rows_lay_30
  · have h := h.2 c2
    refine lv_iload hx hb d_Rows_lay_15 (lv_at hl 0 rfl) ?_
    refine lv_aload_n hx hb d_Rows_lay_17 rfl (lv_at hl 1 rfl) ?_
    refine kget (v := .int Rows_rowLength) (T := F_Rows) E hw in_Rows rfl 1 3 rfl (by decide) tw98 rfl d_Rows_lay_18 ?_
    refine lv_iadd hx hb d_Rows_lay_21 ?_
    refine lv_aload_n hx hb d_Rows_lay_22 rfl (lv_at hl 1 rfl) ?_
    refine kget (v := .ref (a 9)) (T := F_Rows) E hw in_Rows rfl 1 0 rfl (by decide) tw93 rfl d_Rows_lay_23 ?_
    refine kalen E hw 3 rfl d_Rows_lay_26 ?_
    refine lv_icmp_lt (tgt := 31) hx hb d_Rows_lay_27 (by decide) (fun c3 => ?_) (fun c3 => ?_)
    · have h := h.1 c3
      refine lv_aload_n hx hb d_Rows_lay_31 rfl (lv_at hl 1 rfl) ?_
      refine kget (v := .ref (a 9)) (T := F_Rows) E hw in_Rows rfl 1 0 rfl (by decide) tw93 rfl d_Rows_lay_32 ?_
      refine lv_iload hx hb d_Rows_lay_35 (lv_at hl 0 rfl) ?_
      refine lv_iload_n hx hb d_Rows_lay_37 rfl (lv_at hl 3 rfl) ?_
      obtain ⟨b4, h⟩ := h
      obtain ⟨f5, ef5⟩ : ∃ z : Nat → Int32, z = upd rb (z1 : Int32).toNatClampNeg x2 := ⟨_, rfl⟩
      have h := h f5 ef5
      refine kast (ws' := [e_Pic a Pic_width Pic_height Pic_stride, e_Rows a Rows_rowLength, e_ar a n cI 8 pb, e_ar a n cI 9 f5]) E hw 3 rfl b4 (by rw [ef5]; rfl) d_Rows_lay_38 (fun H locs hw => ?_)
      refine lv_iconst (v := 0) hx hb d_Rows_lay_39 (by decide) ?_
      refine lv_istore (lv' := [(5, .int 0), (4, .int z1), (0, .ref (a 2)), (1, .int x1), (2, .int x2), (3, .int x3)]) hx hb d_Rows_lay_40 hl (by decide) rfl (fun ls hl => ?_)
      obtain ⟨N12, h⟩ := h
      exact s_Rows_lay_42 (a := a) (n := n) (tb := tb) E hr hlk  N12 f5 z1 0 _ _ ls hw (lv_sub hl [2, 4, 5, 1, 0] rfl) h
    · have h := h.2 c3
      exact retV (out := fun u => [e_Pic a Pic_width Pic_height Pic_stride, e_Rows a Rows_rowLength, e_ar a n cI 8 pb, e_ar a n cI 9 u]) (u := rb) E hr hlk hw h d_Rows_lay_30
-- PicturePacker$Rows.make()V
theorem d_Rows_make_0 : decode prog_6_method_2_code 0 = .ok (.iconst 0, 1) := by decide +kernel
theorem d_Rows_make_1 : decode prog_6_method_2_code 1 = .ok (.istore_n 1, 1) := by decide +kernel
theorem d_Rows_make_2 : decode prog_6_method_2_code 2 = .ok (.iload_n 1, 1) := by decide +kernel
theorem d_Rows_make_3 : decode prog_6_method_2_code 3 = .ok (.aload_n 0, 1) := by decide +kernel
theorem d_Rows_make_4 : decode prog_6_method_2_code 4 = .ok (.getfield 31, 3) := by decide +kernel
theorem d_Rows_make_7 : decode prog_6_method_2_code 7 = .ok (.arraylength, 1) := by decide +kernel
theorem d_Rows_make_8 : decode prog_6_method_2_code 8 = .ok (.if_icmp .ge 42, 3) := by decide +kernel
theorem d_Rows_make_11 : decode prog_6_method_2_code 11 = .ok (.aload_n 0, 1) := by decide +kernel
theorem d_Rows_make_12 : decode prog_6_method_2_code 12 = .ok (.getfield 9, 3) := by decide +kernel
theorem d_Rows_make_15 : decode prog_6_method_2_code 15 = .ok (.iconst 0, 1) := by decide +kernel
theorem d_Rows_make_16 : decode prog_6_method_2_code 16 = .ok (.iload_n 1, 1) := by decide +kernel
theorem d_Rows_make_17 : decode prog_6_method_2_code 17 = .ok (.invokevirtual 40, 3) := by decide +kernel
theorem d_Rows_make_20 : decode prog_6_method_2_code 20 = .ok (.istore_n 2, 1) := by decide +kernel
theorem d_Rows_make_21 : decode prog_6_method_2_code 21 = .ok (.aload_n 0, 1) := by decide +kernel
theorem d_Rows_make_22 : decode prog_6_method_2_code 22 = .ok (.getfield 31, 3) := by decide +kernel
theorem d_Rows_make_25 : decode prog_6_method_2_code 25 = .ok (.iload_n 1, 1) := by decide +kernel
theorem d_Rows_make_26 : decode prog_6_method_2_code 26 = .ok (.aload_n 0, 1) := by decide +kernel
theorem d_Rows_make_27 : decode prog_6_method_2_code 27 = .ok (.iload_n 2, 1) := by decide +kernel
theorem d_Rows_make_28 : decode prog_6_method_2_code 28 = .ok (.invokevirtual 44, 3) := by decide +kernel
theorem d_Rows_make_31 : decode prog_6_method_2_code 31 = .ok (.iastore, 1) := by decide +kernel
theorem d_Rows_make_32 : decode prog_6_method_2_code 32 = .ok (.aload_n 0, 1) := by decide +kernel
theorem d_Rows_make_33 : decode prog_6_method_2_code 33 = .ok (.iload_n 1, 1) := by decide +kernel
theorem d_Rows_make_34 : decode prog_6_method_2_code 34 = .ok (.aload_n 0, 1) := by decide +kernel
theorem d_Rows_make_35 : decode prog_6_method_2_code 35 = .ok (.getfield 31, 3) := by decide +kernel
theorem d_Rows_make_38 : decode prog_6_method_2_code 38 = .ok (.iload_n 1, 1) := by decide +kernel
theorem d_Rows_make_39 : decode prog_6_method_2_code 39 = .ok (.iaload, 1) := by decide +kernel
theorem d_Rows_make_40 : decode prog_6_method_2_code 40 = .ok (.iload_n 2, 1) := by decide +kernel
theorem d_Rows_make_41 : decode prog_6_method_2_code 41 = .ok (.invokevirtual 48, 3) := by decide +kernel
theorem d_Rows_make_44 : decode prog_6_method_2_code 44 = .ok (.iinc 1 1, 3) := by decide +kernel
theorem d_Rows_make_47 : decode prog_6_method_2_code 47 = .ok (.goto (-45), 3) := by decide +kernel
theorem d_Rows_make_50 : decode prog_6_method_2_code 50 = .ok (.return_, 1) := by decide +kernel
abbrev y_Rows_make : MethodName := ⟨"PicturePacker$Rows", "make", "()V"⟩
def wp_Rows_make_2 (n : Nat → Nat) (Pic_stride : Int32) (Rows_rowLength : Int32) (pb : Nat → Int32) (post : (Nat → Int32) × (Nat → Int32) → Prop) : Nat → (Nat → Int32) → (Nat → Int32) → Int32 → Prop
  | 0 => fun _ _ _ => False
  | N + 1 => fun rb fl y1 => ((nI (n 10) : Int32) ≤ y1 → (post (rb, fl))) ∧ (¬ ((nI (n 10) : Int32) ≤ y1) → (wp_Pic_placeOf n Pic_stride 0 y1 (fun r3 _ => wp_Rows_bestFilter n Pic_stride Rows_rowLength pb r3 (fun r5 _ => vp_in y1 (n 10) ∧ (∀ f7 : Nat → Int32, f7 = upd fl (y1 : Int32).toNatClampNeg r5 → (vp_in y1 (n 10) ∧ (wp_Rows_lay n Pic_stride Rows_rowLength pb rb y1 (f7 (y1 : Int32).toNatClampNeg) r3 (fun u9 => ∀ z11 : Int32, z11 = (y1 + 1) → (wp_Rows_make_2 n Pic_stride Rows_rowLength pb post N u9 f7 z11)))))))))
def wp_Rows_make (n : Nat → Nat) (Pic_stride : Int32) (Rows_rowLength : Int32) (pb : Nat → Int32) (rb : Nat → Int32) (fl : Nat → Int32) (post : (Nat → Int32) × (Nat → Int32) → Prop) : Prop := ∃ N12 : Nat, wp_Rows_make_2 n Pic_stride Rows_rowLength pb post N12 rb fl 0
set_option maxHeartbeats 2000000 in
set_option maxRecDepth 20000 in
theorem s_Rows_make_2 {l : Launch} {dC : Nat → ClassId} {dI : Nat → Nat → Nat} {cI : ClassId} {tb : Tbs} {a n : Nat → Nat} {p : Program} {e : Env} {s : State} {m : MethodId} {args : Array Value} {below : List Frame} {meth : Method} {c : Code} {A : Nat → Prop} (E : CallFix p m c prog_6_method_2_code 3 s args TBL "PicturePacker$Rows") (hr : meth.sig.returnType = none) (hlk : meth.locks = false) {Pic_width : Int32} {Pic_height : Int32} {Pic_stride : Int32} {Rows_rowLength : Int32} {pb : Nat → Int32} {post : (Nat → Int32) × (Nat → Int32) → Prop} : ∀ (N : Nat) (rb : Nat → Int32) (fl : Nat → Int32) (y1 : Int32) (H : Heap) (locs : List Loc) (ls : Array Slot), Wl classes dC dI cI tb A s H locs [e_Pic a Pic_width Pic_height Pic_stride, e_Rows a Rows_rowLength, e_ar a n cI 8 pb, e_ar a n cI 9 rb, e_ar a n cI 10 fl] → lv_has ls 3 [(0, .ref (a 2)), (1, .int y1)] → wp_Rows_make_2 n Pic_stride Rows_rowLength pb post N rb fl y1 → W p l e ({ frames := 6, cells := 0, slots := 0, locals := 145 }) s m args below meth c H locs 0 0 (MQ below (va_Qv post (fun u => End0 classes dC dI cI A [e_Pic a Pic_width Pic_height Pic_stride, e_Rows a Rows_rowLength, e_ar a n cI 8 pb, e_ar a n cI 9 u.1, e_ar a n cI 10 u.2]) A) args s 0 0 A) (F0 m 2 ls []) := by
  obtain ⟨hx, hb, hml, hown, hts⟩ := id E
  intro N
  induction N with
  | zero =>
    intro _ _ _ H locs ls hw hl h
    exact absurd h id
  | succ N ih =>
    intro rb fl y1 H locs ls hw hl h
    unfold wp_Rows_make_2 at h
    refine lv_iload_n hx hb d_Rows_make_2 rfl (lv_at hl 1 rfl) ?_
    refine lv_aload_n hx hb d_Rows_make_3 rfl (lv_at hl 0 rfl) ?_
    refine kget (v := .ref (a 10)) (T := F_Rows) E hw in_Rows rfl 1 1 rfl (by decide) tw95 rfl d_Rows_make_4 ?_
    refine kalen E hw 4 rfl d_Rows_make_7 ?_
    refine lv_icmp_ge (tgt := 50) hx hb d_Rows_make_8 (by decide) (fun c1 => ?_) (fun c1 => ?_)
    · have h := h.1 c1
      exact retV (out := fun u => [e_Pic a Pic_width Pic_height Pic_stride, e_Rows a Rows_rowLength, e_ar a n cI 8 pb, e_ar a n cI 9 u.1, e_ar a n cI 10 u.2]) (u := (rb, fl)) E hr hlk hw h d_Rows_make_50
    · have h := h.2 c1
      refine lv_aload_n hx hb d_Rows_make_11 rfl (lv_at hl 0 rfl) ?_
      refine kget (v := .ref (a 1)) (T := F_Rows) E hw in_Rows rfl 1 2 rfl (by decide) tw97 rfl d_Rows_make_12 ?_
      refine lv_iconst (v := 0) hx hb d_Rows_make_15 (by decide) ?_
      refine lv_iload_n hx hb d_Rows_make_16 rfl (lv_at hl 1 rfl) ?_
      refine kVi (y := y_Pic_placeOf) (ws' := fun _ => [e_Pic a Pic_width Pic_height Pic_stride, e_Rows a Rows_rowLength, e_ar a n cI 8 pb, e_ar a n cI 9 rb, e_ar a n cI 10 fl]) (wr := [e_Rows a Rows_rowLength, e_ar a n cI 8 pb, e_ar a n cI 9 rb, e_ar a n cI 10 fl]) (As := [.int 0, .int y1]) (rest := []) E hw (c_Pic_placeOf (l := l) (dC := dC) (dI := dI) (cI := cI) (tb := tb) (a := a) (n := n) (Pic_width := Pic_width) (Pic_height := Pic_height) (Pic_stride := Pic_stride) (x1 := 0) (x2 := y1) h) tw261 tw238 tw239 tw34 tw240 2 (by decide) ⟨Nat.le_of_ble_eq_true rfl, Nat.le_of_ble_eq_true rfl⟩ ⟨Nat.le_of_ble_eq_true rfl, Nat.le_of_ble_eq_true rfl⟩ ⟨rfl, rfl⟩ rfl rfl 0 rfl [0] [1, 2, 3, 4] [4, 0, 1, 2, 3] rfl rfl rfl rfl (by decide) rfl (fun _ => rfl) hl.1 rfl rfl (Nat.le_of_ble_eq_true rfl) d_Rows_make_17 (fun r3 u2 H locs h hw => ?_)
      refine lv_istore_n (lv' := [(2, .int r3), (0, .ref (a 2)), (1, .int y1)]) hx hb d_Rows_make_20 rfl hl (by decide) rfl (fun ls hl => ?_)
      refine lv_aload_n hx hb d_Rows_make_21 rfl (lv_at hl 1 rfl) ?_
      refine kget (v := .ref (a 10)) (T := F_Rows) E hw in_Rows rfl 1 1 rfl (by decide) tw95 rfl d_Rows_make_22 ?_
      refine lv_iload_n hx hb d_Rows_make_25 rfl (lv_at hl 2 rfl) ?_
      refine lv_aload_n hx hb d_Rows_make_26 rfl (lv_at hl 1 rfl) ?_
      refine lv_iload_n hx hb d_Rows_make_27 rfl (lv_at hl 0 rfl) ?_
      refine kVi (y := y_Rows_bestFilter) (ws' := fun _ => [e_Pic a Pic_width Pic_height Pic_stride, e_Rows a Rows_rowLength, e_ar a n cI 8 pb, e_ar a n cI 9 rb, e_ar a n cI 10 fl]) (wr := [e_ar a n cI 9 rb, e_ar a n cI 10 fl]) (As := [.int r3]) (rest := [.int y1, .ref (a 10)]) E hw (c_Rows_bestFilter (l := l) (dC := dC) (dI := dI) (cI := cI) (tb := tb) (a := a) (n := n) (Pic_width := Pic_width) (Pic_height := Pic_height) (Pic_stride := Pic_stride) (Rows_rowLength := Rows_rowLength) (pb := pb) (x1 := r3) h) tw262 tw264 tw0 tw36 tw265 1 (by decide) ⟨Nat.le_of_ble_eq_true rfl, Nat.le_of_ble_eq_true rfl⟩ ⟨Nat.le_of_ble_eq_true rfl, Nat.le_of_ble_eq_true rfl⟩ ⟨rfl, rfl⟩ rfl rfl 1 rfl [0, 1, 2] [3, 4] [2, 3, 4, 0, 1] rfl rfl rfl rfl (by decide) rfl (fun _ => rfl) hl.1 rfl rfl (Nat.le_of_ble_eq_true rfl) d_Rows_make_28 (fun r5 u4 H locs h hw => ?_)
      obtain ⟨b6, h⟩ := h
      obtain ⟨f7, ef7⟩ : ∃ z : Nat → Int32, z = upd fl (y1 : Int32).toNatClampNeg r5 := ⟨_, rfl⟩
      have h := h f7 ef7
      refine kast (ws' := [e_Pic a Pic_width Pic_height Pic_stride, e_Rows a Rows_rowLength, e_ar a n cI 8 pb, e_ar a n cI 9 rb, e_ar a n cI 10 f7]) E hw 4 rfl b6 (by rw [ef7]; rfl) d_Rows_make_31 (fun H locs hw => ?_)
      refine lv_aload_n hx hb d_Rows_make_32 rfl (lv_at hl 1 rfl) ?_
      refine lv_iload_n hx hb d_Rows_make_33 rfl (lv_at hl 2 rfl) ?_
      refine lv_aload_n hx hb d_Rows_make_34 rfl (lv_at hl 1 rfl) ?_
      refine kget (v := .ref (a 10)) (T := F_Rows) E hw in_Rows rfl 1 1 rfl (by decide) tw95 rfl d_Rows_make_35 ?_
      refine lv_iload_n hx hb d_Rows_make_38 rfl (lv_at hl 2 rfl) ?_
      obtain ⟨b8, h⟩ := h
      refine kald E hw 4 rfl b8 d_Rows_make_39 ?_
      refine lv_iload_n hx hb d_Rows_make_40 rfl (lv_at hl 0 rfl) ?_
      refine kVv (y := y_Rows_lay) (ws' := fun u9 => [e_Pic a Pic_width Pic_height Pic_stride, e_Rows a Rows_rowLength, e_ar a n cI 8 pb, e_ar a n cI 9 u9, e_ar a n cI 10 f7]) (wr := [e_ar a n cI 10 f7]) (As := [.int y1, .int (f7 (y1 : Int32).toNatClampNeg), .int r3]) (rest := []) E hw (c_Rows_lay (l := l) (dC := dC) (dI := dI) (cI := cI) (tb := tb) (a := a) (n := n) (Pic_width := Pic_width) (Pic_height := Pic_height) (Pic_stride := Pic_stride) (Rows_rowLength := Rows_rowLength) (pb := pb) (rb := rb) (x1 := y1) (x2 := f7 (y1 : Int32).toNatClampNeg) (x3 := r3) h) tw284 tw286 tw2 tw36 tw287 3 (by decide) ⟨Nat.le_of_ble_eq_true rfl, Nat.le_of_ble_eq_true rfl⟩ ⟨Nat.le_of_ble_eq_true rfl, Nat.le_of_ble_eq_true rfl⟩ ⟨rfl, rfl⟩ rfl rfl 1 rfl [0, 1, 2, 3] [4] [1, 2, 3, 4, 0] rfl rfl rfl rfl (by decide) rfl (fun _ => rfl) hl.1 rfl rfl (Nat.le_of_ble_eq_true rfl) d_Rows_make_41 (fun u9 H locs h hw => ?_)
      obtain ⟨z11, ez11⟩ : ∃ z : Int32, z = y1 + 1 := ⟨_, rfl⟩
      have h := h z11 ez11
      refine lv_iinc (v := z11) (lv' := [(1, .int z11), (2, .int r3), (0, .ref (a 2))]) hx hb d_Rows_make_44 hl (k := 2) rfl (by rw [ez11]; exact congrArg (y1 + ·) (by decide)) (by decide) rfl (fun ls hl => ?_)
      refine lv_goto (tgt := 2) hx hb d_Rows_make_47 (by decide) ?_
      exact ih u9 f7 z11 _ _ ls hw (lv_sub hl [2, 0] rfl) h
set_option maxHeartbeats 2000000 in
set_option maxRecDepth 20000 in
theorem c_Rows_make {l : Launch} {dC : Nat → ClassId} {dI : Nat → Nat → Nat} {cI : ClassId} {tb : Tbs} {a n : Nat → Nat} {Pic_width : Int32} {Pic_height : Int32} {Pic_stride : Int32} {Rows_rowLength : Int32} {pb : Nat → Int32} {rb : Nat → Int32} {fl : Nat → Int32} {post : (Nat → Int32) × (Nat → Int32) → Prop} (h : wp_Rows_make n Pic_stride Rows_rowLength pb rb fl post) : CtV classes dC dI cI tb l y_Rows_make prog_6_method_2_code 3 ({ frames := 6, cells := 0, slots := 0, locals := 145 }) [.ref (a 2)] [e_Pic a Pic_width Pic_height Pic_stride, e_Rows a Rows_rowLength, e_ar a n cI 8 pb, e_ar a n cI 9 rb, e_ar a n cI 10 fl] ((Nat → Int32) × (Nat → Int32)) (fun u => [e_Pic a Pic_width Pic_height Pic_stride, e_Rows a Rows_rowLength, e_ar a n cI 8 pb, e_ar a n cI 9 u.1, e_ar a n cI 10 u.2]) post := by
  refine startV (by decide) (Nat.le_of_ble_eq_true rfl) ?_
  intro p e s m below meth c ls E hr hlk hnm hl hw
  have hl : lv_has ls 3 [(0, .ref (a 2))] := hl
  generalize va_A [e_Pic a Pic_width Pic_height Pic_stride, e_Rows a Rows_rowLength, e_ar a n cI 8 pb, e_ar a n cI 9 rb, e_ar a n cI 10 fl] s.heap.size = A at hw ⊢
  obtain ⟨hx, hb, hml, hown, hts⟩ := id E
  unfold wp_Rows_make at h
  refine lv_iconst (v := 0) hx hb d_Rows_make_0 (by decide) ?_
  refine lv_istore_n (lv' := [(1, .int 0), (0, .ref (a 2))]) hx hb d_Rows_make_1 rfl hl (by decide) rfl (fun ls hl => ?_)
  obtain ⟨N12, h⟩ := h
  exact s_Rows_make_2 (a := a) (n := n) (tb := tb) E hr hlk  N12 rb fl 0 _ _ ls hw (lv_sub hl [1, 0] rfl) h
-- PicturePacker$Rows.sum()I
theorem d_Rows_sum_0 : decode prog_6_method_6_code 0 = .ok (.iconst 1, 1) := by decide +kernel
theorem d_Rows_sum_1 : decode prog_6_method_6_code 1 = .ok (.istore_n 1, 1) := by decide +kernel
theorem d_Rows_sum_2 : decode prog_6_method_6_code 2 = .ok (.iconst 0, 1) := by decide +kernel
theorem d_Rows_sum_3 : decode prog_6_method_6_code 3 = .ok (.istore_n 2, 1) := by decide +kernel
theorem d_Rows_sum_4 : decode prog_6_method_6_code 4 = .ok (.iconst 0, 1) := by decide +kernel
theorem d_Rows_sum_5 : decode prog_6_method_6_code 5 = .ok (.istore_n 3, 1) := by decide +kernel
theorem d_Rows_sum_6 : decode prog_6_method_6_code 6 = .ok (.iload_n 3, 1) := by decide +kernel
theorem d_Rows_sum_7 : decode prog_6_method_6_code 7 = .ok (.aload_n 0, 1) := by decide +kernel
theorem d_Rows_sum_8 : decode prog_6_method_6_code 8 = .ok (.getfield 27, 3) := by decide +kernel
theorem d_Rows_sum_11 : decode prog_6_method_6_code 11 = .ok (.arraylength, 1) := by decide +kernel
theorem d_Rows_sum_12 : decode prog_6_method_6_code 12 = .ok (.if_icmp .ge 28, 3) := by decide +kernel
theorem d_Rows_sum_15 : decode prog_6_method_6_code 15 = .ok (.iload_n 1, 1) := by decide +kernel
theorem d_Rows_sum_16 : decode prog_6_method_6_code 16 = .ok (.aload_n 0, 1) := by decide +kernel
theorem d_Rows_sum_17 : decode prog_6_method_6_code 17 = .ok (.getfield 27, 3) := by decide +kernel
theorem d_Rows_sum_20 : decode prog_6_method_6_code 20 = .ok (.iload_n 3, 1) := by decide +kernel
theorem d_Rows_sum_21 : decode prog_6_method_6_code 21 = .ok (.iaload, 1) := by decide +kernel
theorem d_Rows_sum_22 : decode prog_6_method_6_code 22 = .ok (.iadd, 1) := by decide +kernel
theorem d_Rows_sum_23 : decode prog_6_method_6_code 23 = .ok (.ldc 63, 2) := by decide +kernel
theorem d_Rows_sum_25 : decode prog_6_method_6_code 25 = .ok (.irem, 1) := by decide +kernel
theorem d_Rows_sum_26 : decode prog_6_method_6_code 26 = .ok (.istore_n 1, 1) := by decide +kernel
theorem d_Rows_sum_27 : decode prog_6_method_6_code 27 = .ok (.iload_n 2, 1) := by decide +kernel
theorem d_Rows_sum_28 : decode prog_6_method_6_code 28 = .ok (.iload_n 1, 1) := by decide +kernel
theorem d_Rows_sum_29 : decode prog_6_method_6_code 29 = .ok (.iadd, 1) := by decide +kernel
theorem d_Rows_sum_30 : decode prog_6_method_6_code 30 = .ok (.ldc 63, 2) := by decide +kernel
theorem d_Rows_sum_32 : decode prog_6_method_6_code 32 = .ok (.irem, 1) := by decide +kernel
theorem d_Rows_sum_33 : decode prog_6_method_6_code 33 = .ok (.istore_n 2, 1) := by decide +kernel
theorem d_Rows_sum_34 : decode prog_6_method_6_code 34 = .ok (.iinc 3 1, 3) := by decide +kernel
theorem d_Rows_sum_37 : decode prog_6_method_6_code 37 = .ok (.goto (-31), 3) := by decide +kernel
theorem d_Rows_sum_40 : decode prog_6_method_6_code 40 = .ok (.iload_n 2, 1) := by decide +kernel
theorem d_Rows_sum_41 : decode prog_6_method_6_code 41 = .ok (.ldc 64, 2) := by decide +kernel
theorem d_Rows_sum_43 : decode prog_6_method_6_code 43 = .ok (.imul, 1) := by decide +kernel
theorem d_Rows_sum_44 : decode prog_6_method_6_code 44 = .ok (.iload_n 1, 1) := by decide +kernel
theorem d_Rows_sum_45 : decode prog_6_method_6_code 45 = .ok (.iadd, 1) := by decide +kernel
theorem d_Rows_sum_46 : decode prog_6_method_6_code 46 = .ok (.ireturn, 1) := by decide +kernel
abbrev y_Rows_sum : MethodName := ⟨"PicturePacker$Rows", "sum", "()I"⟩
def wp_Rows_sum_6 (n : Nat → Nat) (rb : Nat → Int32) (post : Int32 → Unit → Prop) : Nat → Int32 → Int32 → Int32 → Prop
  | 0 => fun _ _ _ => False
  | N + 1 => fun y1 y2 y3 => ((nI (n 9) : Int32) ≤ y3 → (post ((y2 * 65536) + y1) ())) ∧ (¬ ((nI (n 9) : Int32) ≤ y3) → (vp_in y3 (n 9) ∧ (∀ z3 : Int32, z3 = ((y1 + (rb (y3 : Int32).toNatClampNeg)) - (y1 + (rb (y3 : Int32).toNatClampNeg)) / 65521 * 65521) → (∀ z4 : Int32, z4 = ((y2 + z3) - (y2 + z3) / 65521 * 65521) → (∀ z5 : Int32, z5 = (y3 + 1) → (wp_Rows_sum_6 n rb post N z3 z4 z5))))))
def wp_Rows_sum (n : Nat → Nat) (rb : Nat → Int32) (post : Int32 → Unit → Prop) : Prop := ∃ N6 : Nat, wp_Rows_sum_6 n rb post N6 1 0 0
set_option maxHeartbeats 2000000 in
set_option maxRecDepth 20000 in
theorem s_Rows_sum_6 {l : Launch} {dC : Nat → ClassId} {dI : Nat → Nat → Nat} {cI : ClassId} {tb : Tbs} {a n : Nat → Nat} {p : Program} {e : Env} {s : State} {m : MethodId} {args : Array Value} {below : List Frame} {meth : Method} {c : Code} {A : Nat → Prop} (E : CallFix p m c prog_6_method_6_code 4 s args TBL "PicturePacker$Rows") (hr : meth.sig.returnType = some .int) (hlk : meth.locks = false) {Rows_rowLength : Int32} {rb : Nat → Int32} {post : Int32 → Unit → Prop} : ∀ (N : Nat) (y1 : Int32) (y2 : Int32) (y3 : Int32) (H : Heap) (locs : List Loc) (ls : Array Slot), Wl classes dC dI cI tb A s H locs [e_Rows a Rows_rowLength, e_ar a n cI 9 rb] → lv_has ls 4 [(0, .ref (a 2)), (1, .int y1), (2, .int y2), (3, .int y3)] → wp_Rows_sum_6 n rb post N y1 y2 y3 → W p l e ({ frames := 0, cells := 0, slots := 0, locals := 0 }) s m args below meth c H locs 0 0 (MQ below (va_Qi post (fun u => End0 classes dC dI cI A [e_Rows a Rows_rowLength, e_ar a n cI 9 rb]) A) args s 0 0 A) (F0 m 6 ls []) := by
  obtain ⟨hx, hb, hml, hown, hts⟩ := id E
  intro N
  induction N with
  | zero =>
    intro _ _ _ H locs ls hw hl h
    exact absurd h id
  | succ N ih =>
    intro y1 y2 y3 H locs ls hw hl h
    unfold wp_Rows_sum_6 at h
    refine lv_iload_n hx hb d_Rows_sum_6 rfl (lv_at hl 3 rfl) ?_
    refine lv_aload_n hx hb d_Rows_sum_7 rfl (lv_at hl 0 rfl) ?_
    refine kget (v := .ref (a 9)) (T := F_Rows) E hw in_Rows rfl 0 0 rfl (by decide) tw93 rfl d_Rows_sum_8 ?_
    refine kalen E hw 1 rfl d_Rows_sum_11 ?_
    refine lv_icmp_ge (tgt := 40) hx hb d_Rows_sum_12 (by decide) (fun c1 => ?_) (fun c1 => ?_)
    · have h := h.1 c1
      refine lv_iload_n hx hb d_Rows_sum_40 rfl (lv_at hl 2 rfl) ?_
      refine lv_ldc (v := 65536) hx hb hown (hts _ tw406) d_Rows_sum_41 ?_
      refine lv_imul hx hb d_Rows_sum_43 ?_
      refine lv_iload_n hx hb d_Rows_sum_44 rfl (lv_at hl 1 rfl) ?_
      refine lv_iadd hx hb d_Rows_sum_45 ?_
      exact retI (out := fun u => [e_Rows a Rows_rowLength, e_ar a n cI 9 rb]) (u := ()) E hr hlk rfl hw h d_Rows_sum_46
    · have h := h.2 c1
      refine lv_iload_n hx hb d_Rows_sum_15 rfl (lv_at hl 1 rfl) ?_
      refine lv_aload_n hx hb d_Rows_sum_16 rfl (lv_at hl 0 rfl) ?_
      refine kget (v := .ref (a 9)) (T := F_Rows) E hw in_Rows rfl 0 0 rfl (by decide) tw93 rfl d_Rows_sum_17 ?_
      refine lv_iload_n hx hb d_Rows_sum_20 rfl (lv_at hl 3 rfl) ?_
      obtain ⟨b2, h⟩ := h
      refine kald E hw 1 rfl b2 d_Rows_sum_21 ?_
      refine lv_iadd hx hb d_Rows_sum_22 ?_
      refine lv_ldc (v := 65521) hx hb hown (hts _ tw405) d_Rows_sum_23 ?_
      refine lv_irem hx hb d_Rows_sum_25 (by decide) ?_
      refine lv_topi (fun z3 ez3 => ?_)
      have h := h z3 ez3
      refine lv_istore_n (lv' := [(1, .int z3), (0, .ref (a 2)), (2, .int y2), (3, .int y3)]) hx hb d_Rows_sum_26 rfl hl (by decide) rfl (fun ls hl => ?_)
      refine lv_iload_n hx hb d_Rows_sum_27 rfl (lv_at hl 2 rfl) ?_
      refine lv_iload_n hx hb d_Rows_sum_28 rfl (lv_at hl 0 rfl) ?_
      refine lv_iadd hx hb d_Rows_sum_29 ?_
      refine lv_ldc (v := 65521) hx hb hown (hts _ tw405) d_Rows_sum_30 ?_
      refine lv_irem hx hb d_Rows_sum_32 (by decide) ?_
      refine lv_topi (fun z4 ez4 => ?_)
      have h := h z4 ez4
      refine lv_istore_n (lv' := [(2, .int z4), (1, .int z3), (0, .ref (a 2)), (3, .int y3)]) hx hb d_Rows_sum_33 rfl hl (by decide) rfl (fun ls hl => ?_)
      obtain ⟨z5, ez5⟩ : ∃ z : Int32, z = y3 + 1 := ⟨_, rfl⟩
      have h := h z5 ez5
      refine lv_iinc (v := z5) (lv' := [(3, .int z5), (2, .int z4), (1, .int z3), (0, .ref (a 2))]) hx hb d_Rows_sum_34 hl (k := 3) rfl (by rw [ez5]; exact congrArg (y3 + ·) (by decide)) (by decide) rfl (fun ls hl => ?_)
      refine lv_goto (tgt := 6) hx hb d_Rows_sum_37 (by decide) ?_
      exact ih z3 z4 z5 _ _ ls hw (lv_sub hl [3, 2, 1, 0] rfl) h
set_option maxHeartbeats 2000000 in
set_option maxRecDepth 20000 in
theorem c_Rows_sum {l : Launch} {dC : Nat → ClassId} {dI : Nat → Nat → Nat} {cI : ClassId} {tb : Tbs} {a n : Nat → Nat} {Rows_rowLength : Int32} {rb : Nat → Int32} {post : Int32 → Unit → Prop} (h : wp_Rows_sum n rb post) : CtI classes dC dI cI tb l y_Rows_sum prog_6_method_6_code 4 .int ({ frames := 0, cells := 0, slots := 0, locals := 0 }) [.ref (a 2)] [e_Rows a Rows_rowLength, e_ar a n cI 9 rb] (Unit) (fun _ => [e_Rows a Rows_rowLength, e_ar a n cI 9 rb]) post := by
  refine startI (by decide) (Nat.le_of_ble_eq_true rfl) ?_
  intro p e s m below meth c ls E hr hlk hnm hl hw
  have hl : lv_has ls 4 [(0, .ref (a 2))] := hl
  generalize va_A [e_Rows a Rows_rowLength, e_ar a n cI 9 rb] s.heap.size = A at hw ⊢
  obtain ⟨hx, hb, hml, hown, hts⟩ := id E
  unfold wp_Rows_sum at h
  refine lv_iconst (v := 1) hx hb d_Rows_sum_0 (by decide) ?_
  refine lv_istore_n (lv' := [(1, .int 1), (0, .ref (a 2))]) hx hb d_Rows_sum_1 rfl hl (by decide) rfl (fun ls hl => ?_)
  refine lv_iconst (v := 0) hx hb d_Rows_sum_2 (by decide) ?_
  refine lv_istore_n (lv' := [(2, .int 0), (1, .int 1), (0, .ref (a 2))]) hx hb d_Rows_sum_3 rfl hl (by decide) rfl (fun ls hl => ?_)
  refine lv_iconst (v := 0) hx hb d_Rows_sum_4 (by decide) ?_
  refine lv_istore_n (lv' := [(3, .int 0), (2, .int 0), (1, .int 1), (0, .ref (a 2))]) hx hb d_Rows_sum_5 rfl hl (by decide) rfl (fun ls hl => ?_)
  obtain ⟨N6, h⟩ := h
  exact s_Rows_sum_6 (a := a) (n := n) (tb := tb) E hr hlk  N6 1 0 0 _ _ ls hw (lv_sub hl [3, 2, 1, 0] rfl) h
