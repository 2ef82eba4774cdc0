-- java/util/Arrays.fill([II)V
theorem d_Arr_fill_0 : decode prog_11_method_103_code 0 = .ok (.iconst 0, 1) := by decide +kernel
theorem d_Arr_fill_1 : decode prog_11_method_103_code 1 = .ok (.istore_n 2, 1) := by decide +kernel
theorem d_Arr_fill_2 : decode prog_11_method_103_code 2 = .ok (.aload_n 0, 1) := by decide +kernel
theorem d_Arr_fill_3 : decode prog_11_method_103_code 3 = .ok (.arraylength, 1) := by decide +kernel
theorem d_Arr_fill_4 : decode prog_11_method_103_code 4 = .ok (.istore_n 3, 1) := by decide +kernel
theorem d_Arr_fill_5 : decode prog_11_method_103_code 5 = .ok (.iload_n 2, 1) := by decide +kernel
theorem d_Arr_fill_6 : decode prog_11_method_103_code 6 = .ok (.iload_n 3, 1) := by decide +kernel
theorem d_Arr_fill_7 : decode prog_11_method_103_code 7 = .ok (.if_icmp .ge 13, 3) := by decide +kernel
theorem d_Arr_fill_10 : decode prog_11_method_103_code 10 = .ok (.aload_n 0, 1) := by decide +kernel
theorem d_Arr_fill_11 : decode prog_11_method_103_code 11 = .ok (.iload_n 2, 1) := by decide +kernel
theorem d_Arr_fill_12 : decode prog_11_method_103_code 12 = .ok (.iload_n 1, 1) := by decide +kernel
theorem d_Arr_fill_13 : decode prog_11_method_103_code 13 = .ok (.iastore, 1) := by decide +kernel
theorem d_Arr_fill_14 : decode prog_11_method_103_code 14 = .ok (.iinc 2 1, 3) := by decide +kernel
theorem d_Arr_fill_17 : decode prog_11_method_103_code 17 = .ok (.goto (-12), 3) := by decide +kernel
theorem d_Arr_fill_20 : decode prog_11_method_103_code 20 = .ok (.return_, 1) := by decide +kernel
abbrev y_Arr_fill : MethodName := ⟨"java/util/Arrays", "fill", "([II)V"⟩
def wp_Arr_fill_5 (n : Nat → Nat) (x1 : Int32) (post : ((Nat → Int32)) → Prop) : Nat → (Nat → Int32) → Int32 → Int32 → Prop
  | 0 => fun _ _ _ => False
  | N + 1 => fun ga y2 y3 => ((y3 : Int32) ≤ y2 → (post ga)) ∧ (¬ ((y3 : Int32) ≤ y2) → (vp_in y2 (n 18) ∧ (∀ f4 : Nat → Int32, f4 = upd ga (y2 : Int32).toNatClampNeg x1 → (∀ z5 : Int32, z5 = (y2 + 1) → (wp_Arr_fill_5 n x1 post N f4 z5 y3)))))
def wp_Arr_fill (n : Nat → Nat) (ga : Nat → Int32) (x1 : Int32) (post : ((Nat → Int32)) → Prop) : Prop := ∀ z1 : Int32, z1 = (nI (n 18)) → (∃ N6 : Nat, wp_Arr_fill_5 n x1 post N6 ga 0 z1)
set_option maxHeartbeats 2000000 in
set_option maxRecDepth 20000 in
theorem s_Arr_fill_5 {l : Launch} {dC : Nat → ClassId} {dI : Nat → Nat → Nat} {cI : ClassId} {tb : Tbs} {a n : Nat → Nat} {p : Program} {e : Env} {s : State} {m : MethodId} {args : Array Value} {below : List Frame} {meth : Method} {c : Code} {A : Nat → Prop} (E : CallFix p m c prog_11_method_103_code 4 s args TBL "java/util/Arrays") (hr : meth.sig.returnType = none) (hlk : meth.locks = false) {x1 : Int32} {post : ((Nat → Int32)) → Prop} : ∀ (N : Nat) (ga : Nat → Int32) (y2 : Int32) (y3 : Int32) (H : Heap) (locs : List Loc) (ls : Array Slot), Wl classes dC dI cI tb A s H locs [e_ar a n cI 18 ga] → lv_has ls 4 [(0, .ref (a 18)), (1, .int x1), (2, .int y2), (3, .int y3)] → wp_Arr_fill_5 n x1 post N ga y2 y3 → W p l e ({ frames := 0, cells := 0, slots := 0, locals := 0 }) s m args below meth c H locs 0 0 (MQ below (va_Qv post (fun u => End0 classes dC dI cI A [e_ar a n cI 18 u]) A) args s 0 0 A) (F0 m 5 ls []) := by
  obtain ⟨hx, hb, hml, hown, hts⟩ := id E
  intro N
  induction N with
  | zero =>
    intro _ _ _ H locs ls hw hl h
    exact absurd h id
  | succ N ih =>
    intro ga y2 y3 H locs ls hw hl h
    unfold wp_Arr_fill_5 at h
    refine lv_iload_n hx hb d_Arr_fill_5 rfl (lv_at hl 2 rfl) ?_
    refine lv_iload_n hx hb d_Arr_fill_6 rfl (lv_at hl 3 rfl) ?_
    refine lv_icmp_ge (tgt := 20) hx hb d_Arr_fill_7 (by decide) (fun c2 => ?_) (fun c2 => ?_)
    · have h := h.1 c2
      exact retV (out := fun u => [e_ar a n cI 18 u]) (u := ga) E hr hlk hw h d_Arr_fill_20
    · have h := h.2 c2
      refine lv_aload_n hx hb d_Arr_fill_10 rfl (lv_at hl 0 rfl) ?_
      refine lv_iload_n hx hb d_Arr_fill_11 rfl (lv_at hl 2 rfl) ?_
      refine lv_iload_n hx hb d_Arr_fill_12 rfl (lv_at hl 1 rfl) ?_
      obtain ⟨b3, h⟩ := h
      obtain ⟨f4, ef4⟩ : ∃ z : Nat → Int32, z = upd ga (y2 : Int32).toNatClampNeg x1 := ⟨_, rfl⟩
      have h := h f4 ef4
      refine kast (ws' := [e_ar a n cI 18 f4]) E hw 0 rfl b3 (by rw [ef4]; rfl) d_Arr_fill_13 (fun H locs hw => ?_)
      obtain ⟨z5, ez5⟩ : ∃ z : Int32, z = y2 + 1 := ⟨_, rfl⟩
      have h := h z5 ez5
      refine lv_iinc (v := z5) (lv' := [(2, .int z5), (0, .ref (a 18)), (1, .int x1), (3, .int y3)]) hx hb d_Arr_fill_14 hl (k := 2) rfl (by rw [ez5]; exact congrArg (y2 + ·) (by decide)) (by decide) rfl (fun ls hl => ?_)
      refine lv_goto (tgt := 5) hx hb d_Arr_fill_17 (by decide) ?_
      exact ih f4 z5 y3 _ _ ls hw (lv_sub hl [1, 2, 0, 3] rfl) h
set_option maxHeartbeats 2000000 in
set_option maxRecDepth 20000 in
theorem c_Arr_fill {l : Launch} {dC : Nat → ClassId} {dI : Nat → Nat → Nat} {cI : ClassId} {tb : Tbs} {a n : Nat → Nat} {ga : Nat → Int32} {x1 : Int32} {post : ((Nat → Int32)) → Prop} (h : wp_Arr_fill n ga x1 post) : CtV classes dC dI cI tb l y_Arr_fill prog_11_method_103_code 4 ({ frames := 0, cells := 0, slots := 0, locals := 0 }) [.ref (a 18), .int x1] [e_ar a n cI 18 ga] ((Nat → Int32)) (fun u => [e_ar a n cI 18 u]) post := by
  refine startV (by decide) (Nat.le_of_ble_eq_true rfl) ?_
  intro p e s m below meth c ls E hr hlk hnm hl hw
  have hl : lv_has ls 4 [(0, .ref (a 18)), (1, .int x1)] := hl
  generalize va_A [e_ar a n cI 18 ga] s.heap.size = A at hw ⊢
  obtain ⟨hx, hb, hml, hown, hts⟩ := id E
  unfold wp_Arr_fill at h
  refine lv_iconst (v := 0) hx hb d_Arr_fill_0 (by decide) ?_
  refine lv_istore_n (lv' := [(2, .int 0), (0, .ref (a 18)), (1, .int x1)]) hx hb d_Arr_fill_1 rfl hl (by decide) rfl (fun ls hl => ?_)
  refine lv_aload_n hx hb d_Arr_fill_2 rfl (lv_at hl 1 rfl) ?_
  refine kalen E hw 0 rfl d_Arr_fill_3 ?_
  refine lv_topi (fun z1 ez1 => ?_)
  have h := h z1 ez1
  refine lv_istore_n (lv' := [(3, .int z1), (2, .int 0), (0, .ref (a 18)), (1, .int x1)]) hx hb d_Arr_fill_4 rfl hl (by decide) rfl (fun ls hl => ?_)
  obtain ⟨N6, h⟩ := h
  exact s_Arr_fill_5 (a := a) (n := n) (tb := tb) E hr hlk  N6 ga 0 z1 _ _ ls hw (lv_sub hl [2, 3, 1, 0] rfl) h
-- PicturePacker$RunFinder.restart()V
theorem d_Fin_restart_0 : decode prog_7_method_2_code 0 = .ok (.aload_n 0, 1) := by decide +kernel
theorem d_Fin_restart_1 : decode prog_7_method_2_code 1 = .ok (.getfield 15, 3) := by decide +kernel
theorem d_Fin_restart_4 : decode prog_7_method_2_code 4 = .ok (.iconst (-1), 1) := by decide +kernel
theorem d_Fin_restart_5 : decode prog_7_method_2_code 5 = .ok (.invokestatic 21, 3) := by decide +kernel
theorem d_Fin_restart_8 : decode prog_7_method_2_code 8 = .ok (.aload_n 0, 1) := by decide +kernel
theorem d_Fin_restart_9 : decode prog_7_method_2_code 9 = .ok (.iconst 0, 1) := by decide +kernel
theorem d_Fin_restart_10 : decode prog_7_method_2_code 10 = .ok (.putfield 27, 3) := by decide +kernel
theorem d_Fin_restart_13 : decode prog_7_method_2_code 13 = .ok (.return_, 1) := by decide +kernel
abbrev y_Fin_restart : MethodName := ⟨"PicturePacker$RunFinder", "restart", "()V"⟩
def wp_Fin_restart (n : Nat → Nat) (Fin_chained : Int32) (nw : Nat → Int32) (post : Int32 × (Nat → Int32) → Prop) : Prop := wp_Arr_fill (fun _ => n 13) nw ((-1)) (fun u1 => post (0, u1))
set_option maxHeartbeats 2000000 in
set_option maxRecDepth 20000 in
theorem c_Fin_restart {l : Launch} {dC : Nat → ClassId} {dI : Nat → Nat → Nat} {cI : ClassId} {tb : Tbs} {a n : Nat → Nat} {Fin_chained : Int32} {Fin_length : Int32} {Fin_distance : Int32} {nw : Nat → Int32} {post : Int32 × (Nat → Int32) → Prop} (h : wp_Fin_restart n Fin_chained nw post) : CtV classes dC dI cI tb l y_Fin_restart prog_7_method_2_code 1 ({ frames := 1, cells := 0, slots := 0, locals := 23 }) [.ref (a 6)] [e_Fin a Fin_chained Fin_length Fin_distance, e_ar a n cI 13 nw] (Int32 × (Nat → Int32)) (fun u => [e_Fin a u.1 Fin_length Fin_distance, e_ar a n cI 13 u.2]) post := by
  refine startV (by decide) (Nat.le_of_ble_eq_true rfl) ?_
  intro p e s m below meth c ls E hr hlk hnm hl hw
  have hl : lv_has ls 1 [(0, .ref (a 6))] := hl
  generalize va_A [e_Fin a Fin_chained Fin_length Fin_distance, e_ar a n cI 13 nw] s.heap.size = A at hw ⊢
  obtain ⟨hx, hb, hml, hown, hts⟩ := id E
  unfold wp_Fin_restart at h
  refine lv_aload_n hx hb d_Fin_restart_0 rfl (lv_at hl 0 rfl) ?_
  refine kget (v := .ref (a 13)) (T := F_Fin) E hw in_Fin rfl 0 1 rfl (by decide) tw167 rfl d_Fin_restart_1 ?_
  refine lv_iconst (v := (-1)) hx hb d_Fin_restart_4 (by decide) ?_
  refine kSv (y := y_Arr_fill) (ws' := fun u1 => [e_Fin a Fin_chained Fin_length Fin_distance, e_ar a n cI 13 u1]) (wr := [e_Fin a Fin_chained Fin_length Fin_distance]) (As := [.ref (a 13), .int ((-1))]) (rest := []) E hw (c_Arr_fill (l := l) (dC := dC) (dI := dI) (cI := cI) (tb := tb) (a := fun _ => a 13) (n := fun _ => n 13) (ga := nw) (x1 := (-1)) h) tw342 tw91 tw37 tw92 2 (by decide) ⟨Nat.le_of_ble_eq_true rfl, Nat.le_of_ble_eq_true rfl⟩ ⟨Nat.le_of_ble_eq_true rfl, Nat.le_of_ble_eq_true rfl⟩ ⟨rfl, rfl⟩ [1] [0] [0, 1] rfl rfl rfl rfl (by decide) rfl (fun _ => rfl) hl.1 rfl rfl (Nat.le_of_ble_eq_true rfl) d_Fin_restart_5 (fun u1 H locs h hw => ?_)
  refine lv_aload_n hx hb d_Fin_restart_8 rfl (lv_at hl 0 rfl) ?_
  refine lv_iconst (v := 0) hx hb d_Fin_restart_9 (by decide) ?_
  refine kput (v := .int 0) (ty := .int) (T := F_Fin) (ws' := [e_Fin a 0 Fin_length Fin_distance, e_ar a n cI 13 u1]) E hw in_Fin t_Fin t_Fin_ok n_Fin rfl 0 3 rfl (by decide) tw169 rfl rfl rfl rfl (Nat.le_of_ble_eq_true rfl) rfl d_Fin_restart_10 (fun H locs hw => ?_)
  exact retV (out := fun u => [e_Fin a u.1 Fin_length Fin_distance, e_ar a n cI 13 u.2]) (u := (0, u1)) E hr hlk hw h d_Fin_restart_13
-- PicturePacker$RunFinder.mark(I)I
theorem d_Fin_mark_0 : decode prog_7_method_6_code 0 = .ok (.iload_n 1, 1) := by decide +kernel
theorem d_Fin_mark_1 : decode prog_7_method_6_code 1 = .ok (.ifCond .lt 14, 3) := by decide +kernel
theorem d_Fin_mark_4 : decode prog_7_method_6_code 4 = .ok (.iload_n 1, 1) := by decide +kernel
theorem d_Fin_mark_5 : decode prog_7_method_6_code 5 = .ok (.iconst 3, 1) := by decide +kernel
theorem d_Fin_mark_6 : decode prog_7_method_6_code 6 = .ok (.iadd, 1) := by decide +kernel
theorem d_Fin_mark_7 : decode prog_7_method_6_code 7 = .ok (.aload_n 0, 1) := by decide +kernel
theorem d_Fin_mark_8 : decode prog_7_method_6_code 8 = .ok (.getfield 9, 3) := by decide +kernel
theorem d_Fin_mark_11 : decode prog_7_method_6_code 11 = .ok (.arraylength, 1) := by decide +kernel
theorem d_Fin_mark_12 : decode prog_7_method_6_code 12 = .ok (.if_icmp .le 5, 3) := by decide +kernel
theorem d_Fin_mark_15 : decode prog_7_method_6_code 15 = .ok (.iconst 0, 1) := by decide +kernel
theorem d_Fin_mark_16 : decode prog_7_method_6_code 16 = .ok (.ireturn, 1) := by decide +kernel
theorem d_Fin_mark_17 : decode prog_7_method_6_code 17 = .ok (.aload_n 0, 1) := by decide +kernel
theorem d_Fin_mark_18 : decode prog_7_method_6_code 18 = .ok (.getfield 9, 3) := by decide +kernel
theorem d_Fin_mark_21 : decode prog_7_method_6_code 21 = .ok (.iload_n 1, 1) := by decide +kernel
theorem d_Fin_mark_22 : decode prog_7_method_6_code 22 = .ok (.iaload, 1) := by decide +kernel
theorem d_Fin_mark_23 : decode prog_7_method_6_code 23 = .ok (.bipush 33, 2) := by decide +kernel
theorem d_Fin_mark_25 : decode prog_7_method_6_code 25 = .ok (.imul, 1) := by decide +kernel
theorem d_Fin_mark_26 : decode prog_7_method_6_code 26 = .ok (.aload_n 0, 1) := by decide +kernel
theorem d_Fin_mark_27 : decode prog_7_method_6_code 27 = .ok (.getfield 9, 3) := by decide +kernel
theorem d_Fin_mark_30 : decode prog_7_method_6_code 30 = .ok (.iload_n 1, 1) := by decide +kernel
theorem d_Fin_mark_31 : decode prog_7_method_6_code 31 = .ok (.iconst 1, 1) := by decide +kernel
theorem d_Fin_mark_32 : decode prog_7_method_6_code 32 = .ok (.iadd, 1) := by decide +kernel
theorem d_Fin_mark_33 : decode prog_7_method_6_code 33 = .ok (.iaload, 1) := by decide +kernel
theorem d_Fin_mark_34 : decode prog_7_method_6_code 34 = .ok (.iadd, 1) := by decide +kernel
theorem d_Fin_mark_35 : decode prog_7_method_6_code 35 = .ok (.bipush 33, 2) := by decide +kernel
theorem d_Fin_mark_37 : decode prog_7_method_6_code 37 = .ok (.imul, 1) := by decide +kernel
theorem d_Fin_mark_38 : decode prog_7_method_6_code 38 = .ok (.aload_n 0, 1) := by decide +kernel
theorem d_Fin_mark_39 : decode prog_7_method_6_code 39 = .ok (.getfield 9, 3) := by decide +kernel
theorem d_Fin_mark_42 : decode prog_7_method_6_code 42 = .ok (.iload_n 1, 1) := by decide +kernel
theorem d_Fin_mark_43 : decode prog_7_method_6_code 43 = .ok (.iconst 2, 1) := by decide +kernel
theorem d_Fin_mark_44 : decode prog_7_method_6_code 44 = .ok (.iadd, 1) := by decide +kernel
theorem d_Fin_mark_45 : decode prog_7_method_6_code 45 = .ok (.iaload, 1) := by decide +kernel
theorem d_Fin_mark_46 : decode prog_7_method_6_code 46 = .ok (.iadd, 1) := by decide +kernel
theorem d_Fin_mark_47 : decode prog_7_method_6_code 47 = .ok (.sipush 1023, 3) := by decide +kernel
theorem d_Fin_mark_50 : decode prog_7_method_6_code 50 = .ok (.iand, 1) := by decide +kernel
theorem d_Fin_mark_51 : decode prog_7_method_6_code 51 = .ok (.ireturn, 1) := by decide +kernel
abbrev y_Fin_mark : MethodName := ⟨"PicturePacker$RunFinder", "mark", "(I)I"⟩
def wp_Fin_mark (n : Nat → Nat) (rb : Nat → Int32) (x1 : Int32) (post : Int32 → Unit → Prop) : Prop := ((x1 : Int32) < 0 → (post 0 ())) ∧ (¬ ((x1 : Int32) < 0) → (((x1 + 3 : Int32) ≤ (nI (n 9)) → (vp_in x1 (n 9) ∧ (vp_in (x1 + 1) (n 9) ∧ (vp_in (x1 + 2) (n 9) ∧ (post ((((((rb (x1 : Int32).toNatClampNeg) * 33) + (rb (x1 + 1 : Int32).toNatClampNeg)) * 33) + (rb (x1 + 2 : Int32).toNatClampNeg)) &&& 1023) ()))))) ∧ (¬ ((x1 + 3 : Int32) ≤ (nI (n 9))) → (post 0 ()))))
set_option maxHeartbeats 2000000 in
set_option maxRecDepth 20000 in
theorem c_Fin_mark {l : Launch} {dC : Nat → ClassId} {dI : Nat → Nat → Nat} {cI : ClassId} {tb : Tbs} {a n : Nat → Nat} {Fin_chained : Int32} {Fin_length : Int32} {Fin_distance : Int32} {rb : Nat → Int32} {x1 : Int32} {post : Int32 → Unit → Prop} (h : wp_Fin_mark n rb x1 post) : CtI classes dC dI cI tb l y_Fin_mark prog_7_method_6_code 2 .int ({ frames := 0, cells := 0, slots := 0, locals := 0 }) [.ref (a 6), .int x1] [e_Fin a Fin_chained Fin_length Fin_distance, e_ar a n cI 9 rb] (Unit) (fun _ => [e_Fin a Fin_chained Fin_length Fin_distance, e_ar a n cI 9 rb]) post := by
  refine startI (by decide) (Nat.le_of_ble_eq_true rfl) ?_
  intro p e s m below meth c ls E hr hlk hnm hl hw
  have hl : lv_has ls 2 [(0, .ref (a 6)), (1, .int x1)] := hl
  generalize va_A [e_Fin a Fin_chained Fin_length Fin_distance, e_ar a n cI 9 rb] s.heap.size = A at hw ⊢
  obtain ⟨hx, hb, hml, hown, hts⟩ := id E
  unfold wp_Fin_mark at h
  refine lv_iload_n hx hb d_Fin_mark_0 rfl (lv_at hl 1 rfl) ?_
  refine lv_if_lt (tgt := 15) hx hb d_Fin_mark_1 (by decide) (fun c1 => ?_) (fun c1 => ?_)
  · have h := h.1 c1
    refine lv_iconst (v := 0) hx hb d_Fin_mark_15 (by decide) ?_
    exact retI (out := fun u => [e_Fin a Fin_chained Fin_length Fin_distance, e_ar a n cI 9 rb]) (u := ()) E hr hlk rfl hw h d_Fin_mark_16
  · have h := h.2 c1
    refine lv_iload_n hx hb d_Fin_mark_4 rfl (lv_at hl 1 rfl) ?_
    refine lv_iconst (v := 3) hx hb d_Fin_mark_5 (by decide) ?_
    refine lv_iadd hx hb d_Fin_mark_6 ?_
    refine lv_aload_n hx hb d_Fin_mark_7 rfl (lv_at hl 0 rfl) ?_
    refine kget (v := .ref (a 9)) (T := F_Fin) E hw in_Fin rfl 0 0 rfl (by decide) tw166 rfl d_Fin_mark_8 ?_
    refine kalen E hw 1 rfl d_Fin_mark_11 ?_
    refine lv_icmp_le (tgt := 17) hx hb d_Fin_mark_12 (by decide) (fun c2 => ?_) (fun c2 => ?_)
    · have h := h.1 c2
      refine lv_aload_n hx hb d_Fin_mark_17 rfl (lv_at hl 0 rfl) ?_
      refine kget (v := .ref (a 9)) (T := F_Fin) E hw in_Fin rfl 0 0 rfl (by decide) tw166 rfl d_Fin_mark_18 ?_
      refine lv_iload_n hx hb d_Fin_mark_21 rfl (lv_at hl 1 rfl) ?_
      obtain ⟨b3, h⟩ := h
      refine kald E hw 1 rfl b3 d_Fin_mark_22 ?_
      refine lv_bipush (v := 33) hx hb d_Fin_mark_23 (by decide) ?_
      refine lv_imul hx hb d_Fin_mark_25 ?_
      refine lv_aload_n hx hb d_Fin_mark_26 rfl (lv_at hl 0 rfl) ?_
      refine kget (v := .ref (a 9)) (T := F_Fin) E hw in_Fin rfl 0 0 rfl (by decide) tw166 rfl d_Fin_mark_27 ?_
      refine lv_iload_n hx hb d_Fin_mark_30 rfl (lv_at hl 1 rfl) ?_
      refine lv_iconst (v := 1) hx hb d_Fin_mark_31 (by decide) ?_
      refine lv_iadd hx hb d_Fin_mark_32 ?_
      obtain ⟨b4, h⟩ := h
      refine kald E hw 1 rfl b4 d_Fin_mark_33 ?_
      refine lv_iadd hx hb d_Fin_mark_34 ?_
      refine lv_bipush (v := 33) hx hb d_Fin_mark_35 (by decide) ?_
      refine lv_imul hx hb d_Fin_mark_37 ?_
      refine lv_aload_n hx hb d_Fin_mark_38 rfl (lv_at hl 0 rfl) ?_
      refine kget (v := .ref (a 9)) (T := F_Fin) E hw in_Fin rfl 0 0 rfl (by decide) tw166 rfl d_Fin_mark_39 ?_
      refine lv_iload_n hx hb d_Fin_mark_42 rfl (lv_at hl 1 rfl) ?_
      refine lv_iconst (v := 2) hx hb d_Fin_mark_43 (by decide) ?_
      refine lv_iadd hx hb d_Fin_mark_44 ?_
      obtain ⟨b5, h⟩ := h
      refine kald E hw 1 rfl b5 d_Fin_mark_45 ?_
      refine lv_iadd hx hb d_Fin_mark_46 ?_
      refine lv_sipush (v := 1023) hx hb d_Fin_mark_47 (by decide) ?_
      refine lv_iand hx hb d_Fin_mark_50 ?_
      exact retI (out := fun u => [e_Fin a Fin_chained Fin_length Fin_distance, e_ar a n cI 9 rb]) (u := ()) E hr hlk rfl hw h d_Fin_mark_51
    · have h := h.2 c2
      refine lv_iconst (v := 0) hx hb d_Fin_mark_15 (by decide) ?_
      exact retI (out := fun u => [e_Fin a Fin_chained Fin_length Fin_distance, e_ar a n cI 9 rb]) (u := ()) E hr hlk rfl hw h d_Fin_mark_16
-- PicturePacker$RunFinder.chainUpTo(I)V
theorem d_Fin_chainUpTo_0 : decode prog_7_method_5_code 0 = .ok (.aload_n 0, 1) := by decide +kernel
theorem d_Fin_chainUpTo_1 : decode prog_7_method_5_code 1 = .ok (.getfield 27, 3) := by decide +kernel
theorem d_Fin_chainUpTo_4 : decode prog_7_method_5_code 4 = .ok (.iload_n 1, 1) := by decide +kernel
theorem d_Fin_chainUpTo_5 : decode prog_7_method_5_code 5 = .ok (.if_icmp .ge 64, 3) := by decide +kernel
theorem d_Fin_chainUpTo_8 : decode prog_7_method_5_code 8 = .ok (.aload_n 0, 1) := by decide +kernel
theorem d_Fin_chainUpTo_9 : decode prog_7_method_5_code 9 = .ok (.getfield 27, 3) := by decide +kernel
theorem d_Fin_chainUpTo_12 : decode prog_7_method_5_code 12 = .ok (.iconst 3, 1) := by decide +kernel
theorem d_Fin_chainUpTo_13 : decode prog_7_method_5_code 13 = .ok (.iadd, 1) := by decide +kernel
theorem d_Fin_chainUpTo_14 : decode prog_7_method_5_code 14 = .ok (.aload_n 0, 1) := by decide +kernel
theorem d_Fin_chainUpTo_15 : decode prog_7_method_5_code 15 = .ok (.getfield 9, 3) := by decide +kernel
theorem d_Fin_chainUpTo_18 : decode prog_7_method_5_code 18 = .ok (.arraylength, 1) := by decide +kernel
theorem d_Fin_chainUpTo_19 : decode prog_7_method_5_code 19 = .ok (.if_icmp .gt 50, 3) := by decide +kernel
theorem d_Fin_chainUpTo_22 : decode prog_7_method_5_code 22 = .ok (.aload_n 0, 1) := by decide +kernel
theorem d_Fin_chainUpTo_23 : decode prog_7_method_5_code 23 = .ok (.aload_n 0, 1) := by decide +kernel
theorem d_Fin_chainUpTo_24 : decode prog_7_method_5_code 24 = .ok (.getfield 27, 3) := by decide +kernel
theorem d_Fin_chainUpTo_27 : decode prog_7_method_5_code 27 = .ok (.invokevirtual 47, 3) := by decide +kernel
theorem d_Fin_chainUpTo_30 : decode prog_7_method_5_code 30 = .ok (.istore_n 2, 1) := by decide +kernel
theorem d_Fin_chainUpTo_31 : decode prog_7_method_5_code 31 = .ok (.aload_n 0, 1) := by decide +kernel
theorem d_Fin_chainUpTo_32 : decode prog_7_method_5_code 32 = .ok (.getfield 18, 3) := by decide +kernel
theorem d_Fin_chainUpTo_35 : decode prog_7_method_5_code 35 = .ok (.aload_n 0, 1) := by decide +kernel
theorem d_Fin_chainUpTo_36 : decode prog_7_method_5_code 36 = .ok (.getfield 27, 3) := by decide +kernel
theorem d_Fin_chainUpTo_39 : decode prog_7_method_5_code 39 = .ok (.aload_n 0, 1) := by decide +kernel
theorem d_Fin_chainUpTo_40 : decode prog_7_method_5_code 40 = .ok (.getfield 15, 3) := by decide +kernel
theorem d_Fin_chainUpTo_43 : decode prog_7_method_5_code 43 = .ok (.iload_n 2, 1) := by decide +kernel
theorem d_Fin_chainUpTo_44 : decode prog_7_method_5_code 44 = .ok (.iaload, 1) := by decide +kernel
theorem d_Fin_chainUpTo_45 : decode prog_7_method_5_code 45 = .ok (.iastore, 1) := by decide +kernel
theorem d_Fin_chainUpTo_46 : decode prog_7_method_5_code 46 = .ok (.aload_n 0, 1) := by decide +kernel
theorem d_Fin_chainUpTo_47 : decode prog_7_method_5_code 47 = .ok (.getfield 15, 3) := by decide +kernel
theorem d_Fin_chainUpTo_50 : decode prog_7_method_5_code 50 = .ok (.iload_n 2, 1) := by decide +kernel
theorem d_Fin_chainUpTo_51 : decode prog_7_method_5_code 51 = .ok (.aload_n 0, 1) := by decide +kernel
theorem d_Fin_chainUpTo_52 : decode prog_7_method_5_code 52 = .ok (.getfield 27, 3) := by decide +kernel
theorem d_Fin_chainUpTo_55 : decode prog_7_method_5_code 55 = .ok (.iastore, 1) := by decide +kernel
theorem d_Fin_chainUpTo_56 : decode prog_7_method_5_code 56 = .ok (.aload_n 0, 1) := by decide +kernel
theorem d_Fin_chainUpTo_57 : decode prog_7_method_5_code 57 = .ok (.dup, 1) := by decide +kernel
theorem d_Fin_chainUpTo_58 : decode prog_7_method_5_code 58 = .ok (.getfield 27, 3) := by decide +kernel
theorem d_Fin_chainUpTo_61 : decode prog_7_method_5_code 61 = .ok (.iconst 1, 1) := by decide +kernel
theorem d_Fin_chainUpTo_62 : decode prog_7_method_5_code 62 = .ok (.iadd, 1) := by decide +kernel
theorem d_Fin_chainUpTo_63 : decode prog_7_method_5_code 63 = .ok (.putfield 27, 3) := by decide +kernel
theorem d_Fin_chainUpTo_66 : decode prog_7_method_5_code 66 = .ok (.goto (-66), 3) := by decide +kernel
theorem d_Fin_chainUpTo_69 : decode prog_7_method_5_code 69 = .ok (.return_, 1) := by decide +kernel
abbrev y_Fin_chainUpTo : MethodName := ⟨"PicturePacker$RunFinder", "chainUpTo", "(I)V"⟩
def wp_Fin_chainUpTo_0 (n : Nat → Nat) (rb : Nat → Int32) (x1 : Int32) (post : Int32 × (Nat → Int32) × (Nat → Int32) → Prop) : Nat → Int32 → (Nat → Int32) → (Nat → Int32) → Prop
  | 0 => fun _ _ _ => False
  | N + 1 => fun Fin_chained nw nx => ((x1 : Int32) ≤ Fin_chained → (post (Fin_chained, nw, nx))) ∧ (¬ ((x1 : Int32) ≤ Fin_chained) → (((nI (n 9) : Int32) < (Fin_chained + 3) → (post (Fin_chained, nw, nx))) ∧ (¬ ((nI (n 9) : Int32) < (Fin_chained + 3)) → (wp_Fin_mark n rb Fin_chained (fun r4 _ => vp_in r4 (n 13) ∧ (∀ z6 : Int32, z6 = (nw (r4 : Int32).toNatClampNeg) → (vp_in Fin_chained (n 14) ∧ (∀ f8 : Nat → Int32, f8 = upd nx (Fin_chained : Int32).toNatClampNeg z6 → (vp_in r4 (n 13) ∧ (∀ f10 : Nat → Int32, f10 = upd nw (r4 : Int32).toNatClampNeg Fin_chained → (∀ z11 : Int32, z11 = (Fin_chained + 1) → (wp_Fin_chainUpTo_0 n rb x1 post N z11 f10 f8))))))))))))
def wp_Fin_chainUpTo (n : Nat → Nat) (Fin_chained : Int32) (rb : Nat → Int32) (nw : Nat → Int32) (nx : Nat → Int32) (x1 : Int32) (post : Int32 × (Nat → Int32) × (Nat → Int32) → Prop) : Prop := ∃ N12 : Nat, wp_Fin_chainUpTo_0 n rb x1 post N12 Fin_chained nw nx
set_option maxHeartbeats 2000000 in
set_option maxRecDepth 20000 in
theorem s_Fin_chainUpTo_0 {l : Launch} {dC : Nat → ClassId} {dI : Nat → Nat → Nat} {cI : ClassId} {tb : Tbs} {a n : Nat → Nat} {p : Program} {e : Env} {s : State} {m : MethodId} {args : Array Value} {below : List Frame} {meth : Method} {c : Code} {A : Nat → Prop} (E : CallFix p m c prog_7_method_5_code 3 s args TBL "PicturePacker$RunFinder") (hr : meth.sig.returnType = none) (hlk : meth.locks = false) {Fin_length : Int32} {Fin_distance : Int32} {rb : Nat → Int32} {x1 : Int32} {post : Int32 × (Nat → Int32) × (Nat → Int32) → Prop} : ∀ (N : Nat) (Fin_chained : Int32) (nw : Nat → Int32) (nx : Nat → Int32) (H : Heap) (locs : List Loc) (ls : Array Slot), Wl classes dC dI cI tb A s H locs [e_Fin a Fin_chained Fin_length Fin_distance, e_ar a n cI 9 rb, e_ar a n cI 13 nw, e_ar a n cI 14 nx] → lv_has ls 3 [(0, .ref (a 6)), (1, .int x1)] → wp_Fin_chainUpTo_0 n rb x1 post N Fin_chained nw nx → W p l e ({ frames := 1, cells := 0, slots := 0, locals := 21 }) s m args below meth c H locs 0 0 (MQ below (va_Qv post (fun u => End0 classes dC dI cI A [e_Fin a u.1 Fin_length Fin_distance, e_ar a n cI 9 rb, e_ar a n cI 13 u.2.1, e_ar a n cI 14 u.2.2]) A) args s 0 0 A) (F0 m 0 ls []) := by
  obtain ⟨hx, hb, hml, hown, hts⟩ := id E
  intro N
  induction N with
  | zero =>
    intro _ _ _ H locs ls hw hl h
    exact absurd h id
  | succ N ih =>
    intro Fin_chained nw nx H locs ls hw hl h
    unfold wp_Fin_chainUpTo_0 at h
    refine lv_aload_n hx hb d_Fin_chainUpTo_0 rfl (lv_at hl 0 rfl) ?_
    refine kget (v := .int Fin_chained) (T := F_Fin) E hw in_Fin rfl 0 3 rfl (by decide) tw169 rfl d_Fin_chainUpTo_1 ?_
    refine lv_iload_n hx hb d_Fin_chainUpTo_4 rfl (lv_at hl 1 rfl) ?_
    refine lv_icmp_ge (tgt := 69) hx hb d_Fin_chainUpTo_5 (by decide) (fun c1 => ?_) (fun c1 => ?_)
    · have h := h.1 c1
      exact retV (out := fun u => [e_Fin a u.1 Fin_length Fin_distance, e_ar a n cI 9 rb, e_ar a n cI 13 u.2.1, e_ar a n cI 14 u.2.2]) (u := (Fin_chained, nw, nx)) E hr hlk hw h d_Fin_chainUpTo_69
    · have h := h.2 c1
      refine lv_aload_n hx hb d_Fin_chainUpTo_8 rfl (lv_at hl 0 rfl) ?_
      refine kget (v := .int Fin_chained) (T := F_Fin) E hw in_Fin rfl 0 3 rfl (by decide) tw169 rfl d_Fin_chainUpTo_9 ?_
      refine lv_iconst (v := 3) hx hb d_Fin_chainUpTo_12 (by decide) ?_
      refine lv_iadd hx hb d_Fin_chainUpTo_13 ?_
      refine lv_aload_n hx hb d_Fin_chainUpTo_14 rfl (lv_at hl 0 rfl) ?_
      refine kget (v := .ref (a 9)) (T := F_Fin) E hw in_Fin rfl 0 0 rfl (by decide) tw166 rfl d_Fin_chainUpTo_15 ?_
      refine kalen E hw 1 rfl d_Fin_chainUpTo_18 ?_
      refine lv_icmp_gt (tgt := 69) hx hb d_Fin_chainUpTo_19 (by decide) (fun c2 => ?_) (fun c2 => ?_)
      · have h := h.1 c2
        exact retV (out := fun u => [e_Fin a u.1 Fin_length Fin_distance, e_ar a n cI 9 rb, e_ar a n cI 13 u.2.1, e_ar a n cI 14 u.2.2]) (u := (Fin_chained, nw, nx)) E hr hlk hw h d_Fin_chainUpTo_69
      · have h := h.2 c2
        refine lv_aload_n hx hb d_Fin_chainUpTo_22 rfl (lv_at hl 0 rfl) ?_
        refine lv_aload_n hx hb d_Fin_chainUpTo_23 rfl (lv_at hl 0 rfl) ?_
        refine kget (v := .int Fin_chained) (T := F_Fin) E hw in_Fin rfl 0 3 rfl (by decide) tw169 rfl d_Fin_chainUpTo_24 ?_
        refine kVi (y := y_Fin_mark) (ws' := fun _ => [e_Fin a Fin_chained Fin_length Fin_distance, e_ar a n cI 9 rb, e_ar a n cI 13 nw, e_ar a n cI 14 nx]) (wr := [e_ar a n cI 13 nw, e_ar a n cI 14 nx]) (As := [.int Fin_chained]) (rest := []) E hw (c_Fin_mark (l := l) (dC := dC) (dI := dI) (cI := cI) (tb := tb) (a := a) (n := n) (Fin_chained := Fin_chained) (Fin_length := Fin_length) (Fin_distance := Fin_distance) (rb := rb) (x1 := Fin_chained) h) tw359 tw361 tw7 tw41 tw362 1 (by decide) ⟨Nat.le_of_ble_eq_true rfl, Nat.le_of_ble_eq_true rfl⟩ ⟨Nat.le_of_ble_eq_true rfl, Nat.le_of_ble_eq_true rfl⟩ ⟨rfl, rfl⟩ rfl rfl 0 rfl [0, 1] [2, 3] [2, 3, 0, 1] rfl rfl rfl rfl (by decide) rfl (fun _ => rfl) hl.1 rfl rfl (Nat.le_of_ble_eq_true rfl) d_Fin_chainUpTo_27 (fun r4 u3 H locs h hw => ?_)
        refine lv_istore_n (lv' := [(2, .int r4), (0, .ref (a 6)), (1, .int x1)]) hx hb d_Fin_chainUpTo_30 rfl hl (by decide) rfl (fun ls hl => ?_)
        refine lv_aload_n hx hb d_Fin_chainUpTo_31 rfl (lv_at hl 1 rfl) ?_
        refine kget (v := .ref (a 14)) (T := F_Fin) E hw in_Fin rfl 0 2 rfl (by decide) tw168 rfl d_Fin_chainUpTo_32 ?_
        refine lv_aload_n hx hb d_Fin_chainUpTo_35 rfl (lv_at hl 1 rfl) ?_
        refine kget (v := .int Fin_chained) (T := F_Fin) E hw in_Fin rfl 0 3 rfl (by decide) tw169 rfl d_Fin_chainUpTo_36 ?_
        refine lv_aload_n hx hb d_Fin_chainUpTo_39 rfl (lv_at hl 1 rfl) ?_
        refine kget (v := .ref (a 13)) (T := F_Fin) E hw in_Fin rfl 0 1 rfl (by decide) tw167 rfl d_Fin_chainUpTo_40 ?_
        refine lv_iload_n hx hb d_Fin_chainUpTo_43 rfl (lv_at hl 0 rfl) ?_
        obtain ⟨b5, h⟩ := h
        refine kald E hw 2 rfl b5 d_Fin_chainUpTo_44 ?_
        refine lv_topi (fun z6 ez6 => ?_)
        have h := h z6 ez6
        obtain ⟨b7, h⟩ := h
        obtain ⟨f8, ef8⟩ : ∃ z : Nat → Int32, z = upd nx (Fin_chained : Int32).toNatClampNeg z6 := ⟨_, rfl⟩
        have h := h f8 ef8
        refine kast (ws' := [e_Fin a Fin_chained Fin_length Fin_distance, e_ar a n cI 9 rb, e_ar a n cI 13 nw, e_ar a n cI 14 f8]) E hw 3 rfl b7 (by rw [ef8]; rfl) d_Fin_chainUpTo_45 (fun H locs hw => ?_)
        refine lv_aload_n hx hb d_Fin_chainUpTo_46 rfl (lv_at hl 1 rfl) ?_
        refine kget (v := .ref (a 13)) (T := F_Fin) E hw in_Fin rfl 0 1 rfl (by decide) tw167 rfl d_Fin_chainUpTo_47 ?_
        refine lv_iload_n hx hb d_Fin_chainUpTo_50 rfl (lv_at hl 0 rfl) ?_
        refine lv_aload_n hx hb d_Fin_chainUpTo_51 rfl (lv_at hl 1 rfl) ?_
        refine kget (v := .int Fin_chained) (T := F_Fin) E hw in_Fin rfl 0 3 rfl (by decide) tw169 rfl d_Fin_chainUpTo_52 ?_
        obtain ⟨b9, h⟩ := h
        obtain ⟨f10, ef10⟩ : ∃ z : Nat → Int32, z = upd nw (r4 : Int32).toNatClampNeg Fin_chained := ⟨_, rfl⟩
        have h := h f10 ef10
        refine kast (ws' := [e_Fin a Fin_chained Fin_length Fin_distance, e_ar a n cI 9 rb, e_ar a n cI 13 f10, e_ar a n cI 14 f8]) E hw 2 rfl b9 (by rw [ef10]; rfl) d_Fin_chainUpTo_55 (fun H locs hw => ?_)
        refine lv_aload_n hx hb d_Fin_chainUpTo_56 rfl (lv_at hl 1 rfl) ?_
        refine lv_dup hx hb d_Fin_chainUpTo_57 rfl ?_
        refine kget (v := .int Fin_chained) (T := F_Fin) E hw in_Fin rfl 0 3 rfl (by decide) tw169 rfl d_Fin_chainUpTo_58 ?_
        refine lv_iconst (v := 1) hx hb d_Fin_chainUpTo_61 (by decide) ?_
        refine lv_iadd hx hb d_Fin_chainUpTo_62 ?_
        refine lv_topi (fun z11 ez11 => ?_)
        have h := h z11 ez11
        refine kput (v := .int z11) (ty := .int) (T := F_Fin) (ws' := [e_Fin a z11 Fin_length Fin_distance, e_ar a n cI 9 rb, e_ar a n cI 13 f10, e_ar a n cI 14 f8]) E hw in_Fin t_Fin t_Fin_ok n_Fin rfl 0 3 rfl (by decide) tw169 rfl rfl rfl rfl (Nat.le_of_ble_eq_true rfl) rfl d_Fin_chainUpTo_63 (fun H locs hw => ?_)
        refine lv_goto (tgt := 0) hx hb d_Fin_chainUpTo_66 (by decide) ?_
        exact ih z11 f10 f8 _ _ ls hw (lv_sub hl [1, 2] rfl) h
set_option maxHeartbeats 2000000 in
set_option maxRecDepth 20000 in
theorem c_Fin_chainUpTo {l : Launch} {dC : Nat → ClassId} {dI : Nat → Nat → Nat} {cI : ClassId} {tb : Tbs} {a n : Nat → Nat} {Fin_chained : Int32} {Fin_length : Int32} {Fin_distance : Int32} {rb : Nat → Int32} {nw : Nat → Int32} {nx : Nat → Int32} {x1 : Int32} {post : Int32 × (Nat → Int32) × (Nat → Int32) → Prop} (h : wp_Fin_chainUpTo n Fin_chained rb nw nx x1 post) : CtV classes dC dI cI tb l y_Fin_chainUpTo prog_7_method_5_code 3 ({ frames := 1, cells := 0, slots := 0, locals := 21 }) [.ref (a 6), .int x1] [e_Fin a Fin_chained Fin_length Fin_distance, e_ar a n cI 9 rb, e_ar a n cI 13 nw, e_ar a n cI 14 nx] (Int32 × (Nat → Int32) × (Nat → Int32)) (fun u => [e_Fin a u.1 Fin_length Fin_distance, e_ar a n cI 9 rb, e_ar a n cI 13 u.2.1, e_ar a n cI 14 u.2.2]) post := by
  refine startV (by decide) (Nat.le_of_ble_eq_true rfl) ?_
  intro p e s m below meth c ls E hr hlk hnm hl hw
  have hl : lv_has ls 3 [(0, .ref (a 6)), (1, .int x1)] := hl
  generalize va_A [e_Fin a Fin_chained Fin_length Fin_distance, e_ar a n cI 9 rb, e_ar a n cI 13 nw, e_ar a n cI 14 nx] s.heap.size = A at hw ⊢
  obtain ⟨hx, hb, hml, hown, hts⟩ := id E
  unfold wp_Fin_chainUpTo at h
  obtain ⟨N12, h⟩ := h
  exact s_Fin_chainUpTo_0 (a := a) (n := n) (tb := tb) E hr hlk  N12 Fin_chained nw nx _ _ ls hw (lv_sub hl [0, 1] rfl) h
-- PicturePacker$RunFinder.sameBytes(III)I
theorem d_Fin_sameBytes_0 : decode prog_7_method_7_code 0 = .ok (.iconst 0, 1) := by decide +kernel
theorem d_Fin_sameBytes_1 : decode prog_7_method_7_code 1 = .ok (.istore 4, 2) := by decide +kernel
theorem d_Fin_sameBytes_3 : decode prog_7_method_7_code 3 = .ok (.iload 4, 2) := by decide +kernel
theorem d_Fin_sameBytes_5 : decode prog_7_method_7_code 5 = .ok (.iload_n 3, 1) := by decide +kernel
theorem d_Fin_sameBytes_6 : decode prog_7_method_7_code 6 = .ok (.if_icmp .ge 42, 3) := by decide +kernel
theorem d_Fin_sameBytes_9 : decode prog_7_method_7_code 9 = .ok (.iload_n 2, 1) := by decide +kernel
theorem d_Fin_sameBytes_10 : decode prog_7_method_7_code 10 = .ok (.iload 4, 2) := by decide +kernel
theorem d_Fin_sameBytes_12 : decode prog_7_method_7_code 12 = .ok (.iadd, 1) := by decide +kernel
theorem d_Fin_sameBytes_13 : decode prog_7_method_7_code 13 = .ok (.aload_n 0, 1) := by decide +kernel
theorem d_Fin_sameBytes_14 : decode prog_7_method_7_code 14 = .ok (.getfield 9, 3) := by decide +kernel
theorem d_Fin_sameBytes_17 : decode prog_7_method_7_code 17 = .ok (.arraylength, 1) := by decide +kernel
theorem d_Fin_sameBytes_18 : decode prog_7_method_7_code 18 = .ok (.if_icmp .ge 30, 3) := by decide +kernel
theorem d_Fin_sameBytes_21 : decode prog_7_method_7_code 21 = .ok (.aload_n 0, 1) := by decide +kernel
theorem d_Fin_sameBytes_22 : decode prog_7_method_7_code 22 = .ok (.getfield 9, 3) := by decide +kernel
theorem d_Fin_sameBytes_25 : decode prog_7_method_7_code 25 = .ok (.iload_n 1, 1) := by decide +kernel
theorem d_Fin_sameBytes_26 : decode prog_7_method_7_code 26 = .ok (.iload 4, 2) := by decide +kernel
theorem d_Fin_sameBytes_28 : decode prog_7_method_7_code 28 = .ok (.iadd, 1) := by decide +kernel
theorem d_Fin_sameBytes_29 : decode prog_7_method_7_code 29 = .ok (.iaload, 1) := by decide +kernel
theorem d_Fin_sameBytes_30 : decode prog_7_method_7_code 30 = .ok (.aload_n 0, 1) := by decide +kernel
theorem d_Fin_sameBytes_31 : decode prog_7_method_7_code 31 = .ok (.getfield 9, 3) := by decide +kernel
theorem d_Fin_sameBytes_34 : decode prog_7_method_7_code 34 = .ok (.iload_n 2, 1) := by decide +kernel
theorem d_Fin_sameBytes_35 : decode prog_7_method_7_code 35 = .ok (.iload 4, 2) := by decide +kernel
theorem d_Fin_sameBytes_37 : decode prog_7_method_7_code 37 = .ok (.iadd, 1) := by decide +kernel
theorem d_Fin_sameBytes_38 : decode prog_7_method_7_code 38 = .ok (.iaload, 1) := by decide +kernel
theorem d_Fin_sameBytes_39 : decode prog_7_method_7_code 39 = .ok (.if_icmp .ne 9, 3) := by decide +kernel
theorem d_Fin_sameBytes_42 : decode prog_7_method_7_code 42 = .ok (.iinc 4 1, 3) := by decide +kernel
theorem d_Fin_sameBytes_45 : decode prog_7_method_7_code 45 = .ok (.goto (-42), 3) := by decide +kernel
theorem d_Fin_sameBytes_48 : decode prog_7_method_7_code 48 = .ok (.iload 4, 2) := by decide +kernel
theorem d_Fin_sameBytes_50 : decode prog_7_method_7_code 50 = .ok (.ireturn, 1) := by decide +kernel
abbrev y_Fin_sameBytes : MethodName := ⟨"PicturePacker$RunFinder", "sameBytes", "(III)I"⟩
def wp_Fin_sameBytes_3 (n : Nat → Nat) (rb : Nat → Int32) (x1 : Int32) (x2 : Int32) (x3 : Int32) (post : Int32 → Unit → Prop) : Nat → Int32 → Prop
  | 0 => fun _ => False
  | N + 1 => fun y4 => ((x3 : Int32) ≤ y4 → (post y4 ())) ∧ (¬ ((x3 : Int32) ≤ y4) → (((nI (n 9) : Int32) ≤ (x2 + y4) → (post y4 ())) ∧ (¬ ((nI (n 9) : Int32) ≤ (x2 + y4)) → (vp_in (x1 + y4) (n 9) ∧ (vp_in (x2 + y4) (n 9) ∧ ((¬ (rb (x1 + y4 : Int32).toNatClampNeg : Int32) = (rb (x2 + y4 : Int32).toNatClampNeg) → (post y4 ())) ∧ ((rb (x1 + y4 : Int32).toNatClampNeg : Int32) = (rb (x2 + y4 : Int32).toNatClampNeg) → (∀ z6 : Int32, z6 = (y4 + 1) → (wp_Fin_sameBytes_3 n rb x1 x2 x3 post N z6)))))))))
def wp_Fin_sameBytes (n : Nat → Nat) (rb : Nat → Int32) (x1 : Int32) (x2 : Int32) (x3 : Int32) (post : Int32 → Unit → Prop) : Prop := ∃ N7 : Nat, wp_Fin_sameBytes_3 n rb x1 x2 x3 post N7 0
set_option maxHeartbeats 2000000 in
set_option maxRecDepth 20000 in
theorem s_Fin_sameBytes_3 {l : Launch} {dC : Nat → ClassId} {dI : Nat → Nat → Nat} {cI : ClassId} {tb : Tbs} {a n : Nat → Nat} {p : Program} {e : Env} {s : State} {m : MethodId} {args : Array Value} {below : List Frame} {meth : Method} {c : Code} {A : Nat → Prop} (E : CallFix p m c prog_7_method_7_code 5 s args TBL "PicturePacker$RunFinder") (hr : meth.sig.returnType = some .int) (hlk : meth.locks = false) {Fin_chained : Int32} {Fin_length : Int32} {Fin_distance : Int32} {rb : Nat → Int32} {x1 : Int32} {x2 : Int32} {x3 : Int32} {post : Int32 → Unit → Prop} : ∀ (N : Nat) (y4 : Int32) (H : Heap) (locs : List Loc) (ls : Array Slot), Wl classes dC dI cI tb A s H locs [e_Fin a Fin_chained Fin_length Fin_distance, e_ar a n cI 9 rb] → lv_has ls 5 [(0, .ref (a 6)), (1, .int x1), (2, .int x2), (3, .int x3), (4, .int y4)] → wp_Fin_sameBytes_3 n rb x1 x2 x3 post N y4 → W p l e ({ frames := 0, cells := 0, slots := 0, locals := 0 }) s m args below meth c H locs 0 0 (MQ below (va_Qi post (fun u => End0 classes dC dI cI A [e_Fin a Fin_chained Fin_length Fin_distance, e_ar a n cI 9 rb]) A) args s 0 0 A) (F0 m 3 ls []) := by
  obtain ⟨hx, hb, hml, hown, hts⟩ := id E
  intro N
  induction N with
  | zero =>
    intro _ H locs ls hw hl h
    exact absurd h id
  | succ N ih =>
    intro y4 H locs ls hw hl h
    unfold wp_Fin_sameBytes_3 at h
    refine lv_iload hx hb d_Fin_sameBytes_3 (lv_at hl 4 rfl) ?_
    refine lv_iload_n hx hb d_Fin_sameBytes_5 rfl (lv_at hl 3 rfl) ?_
    refine lv_icmp_ge (tgt := 48) hx hb d_Fin_sameBytes_6 (by decide) (fun c1 => ?_) (fun c1 => ?_)
    · have h := h.1 c1
      refine lv_iload hx hb d_Fin_sameBytes_48 (lv_at hl 4 rfl) ?_
      exact retI (out := fun u => [e_Fin a Fin_chained Fin_length Fin_distance, e_ar a n cI 9 rb]) (u := ()) E hr hlk rfl hw h d_Fin_sameBytes_50
    · have h := h.2 c1
      refine lv_iload_n hx hb d_Fin_sameBytes_9 rfl (lv_at hl 2 rfl) ?_
      refine lv_iload hx hb d_Fin_sameBytes_10 (lv_at hl 4 rfl) ?_
      refine lv_iadd hx hb d_Fin_sameBytes_12 ?_
      refine lv_aload_n hx hb d_Fin_sameBytes_13 rfl (lv_at hl 0 rfl) ?_
      refine kget (v := .ref (a 9)) (T := F_Fin) E hw in_Fin rfl 0 0 rfl (by decide) tw166 rfl d_Fin_sameBytes_14 ?_
      refine kalen E hw 1 rfl d_Fin_sameBytes_17 ?_
      refine lv_icmp_ge (tgt := 48) hx hb d_Fin_sameBytes_18 (by decide) (fun c2 => ?_) (fun c2 => ?_)
      · have h := h.1 c2
        refine lv_iload hx hb d_Fin_sameBytes_48 (lv_at hl 4 rfl) ?_
        exact retI (out := fun u => [e_Fin a Fin_chained Fin_length Fin_distance, e_ar a n cI 9 rb]) (u := ()) E hr hlk rfl hw h d_Fin_sameBytes_50
      · have h := h.2 c2
        refine lv_aload_n hx hb d_Fin_sameBytes_21 rfl (lv_at hl 0 rfl) ?_
        refine kget (v := .ref (a 9)) (T := F_Fin) E hw in_Fin rfl 0 0 rfl (by decide) tw166 rfl d_Fin_sameBytes_22 ?_
        refine lv_iload_n hx hb d_Fin_sameBytes_25 rfl (lv_at hl 1 rfl) ?_
        refine lv_iload hx hb d_Fin_sameBytes_26 (lv_at hl 4 rfl) ?_
        refine lv_iadd hx hb d_Fin_sameBytes_28 ?_
        obtain ⟨b3, h⟩ := h
        refine kald E hw 1 rfl b3 d_Fin_sameBytes_29 ?_
        refine lv_aload_n hx hb d_Fin_sameBytes_30 rfl (lv_at hl 0 rfl) ?_
        refine kget (v := .ref (a 9)) (T := F_Fin) E hw in_Fin rfl 0 0 rfl (by decide) tw166 rfl d_Fin_sameBytes_31 ?_
        refine lv_iload_n hx hb d_Fin_sameBytes_34 rfl (lv_at hl 2 rfl) ?_
        refine lv_iload hx hb d_Fin_sameBytes_35 (lv_at hl 4 rfl) ?_
        refine lv_iadd hx hb d_Fin_sameBytes_37 ?_
        obtain ⟨b4, h⟩ := h
        refine kald E hw 1 rfl b4 d_Fin_sameBytes_38 ?_
        refine lv_icmp_ne (tgt := 48) hx hb d_Fin_sameBytes_39 (by decide) (fun c5 => ?_) (fun c5 => ?_)
        · have h := h.1 c5
          refine lv_iload hx hb d_Fin_sameBytes_48 (lv_at hl 4 rfl) ?_
          exact retI (out := fun u => [e_Fin a Fin_chained Fin_length Fin_distance, e_ar a n cI 9 rb]) (u := ()) E hr hlk rfl hw h d_Fin_sameBytes_50
        · have h := h.2 c5
          obtain ⟨z6, ez6⟩ : ∃ z : Int32, z = y4 + 1 := ⟨_, rfl⟩
          have h := h z6 ez6
          refine lv_iinc (v := z6) (lv' := [(4, .int z6), (0, .ref (a 6)), (1, .int x1), (2, .int x2), (3, .int x3)]) hx hb d_Fin_sameBytes_42 hl (k := 4) rfl (by rw [ez6]; exact congrArg (y4 + ·) (by decide)) (by decide) rfl (fun ls hl => ?_)
          refine lv_goto (tgt := 3) hx hb d_Fin_sameBytes_45 (by decide) ?_
          exact ih z6 _ _ ls hw (lv_sub hl [1, 2, 3, 4, 0] rfl) h
set_option maxHeartbeats 2000000 in
set_option maxRecDepth 20000 in
theorem c_Fin_sameBytes {l : Launch} {dC : Nat → ClassId} {dI : Nat → Nat → Nat} {cI : ClassId} {tb : Tbs} {a n : Nat → Nat} {Fin_chained : Int32} {Fin_length : Int32} {Fin_distance : Int32} {rb : Nat → Int32} {x1 : Int32} {x2 : Int32} {x3 : Int32} {post : Int32 → Unit → Prop} (h : wp_Fin_sameBytes n rb x1 x2 x3 post) : CtI classes dC dI cI tb l y_Fin_sameBytes prog_7_method_7_code 5 .int ({ frames := 0, cells := 0, slots := 0, locals := 0 }) [.ref (a 6), .int x1, .int x2, .int x3] [e_Fin a Fin_chained Fin_length Fin_distance, e_ar a n cI 9 rb] (Unit) (fun _ => [e_Fin a Fin_chained Fin_length Fin_distance, e_ar a n cI 9 rb]) post := by
  refine startI (by decide) (Nat.le_of_ble_eq_true rfl) ?_
  intro p e s m below meth c ls E hr hlk hnm hl hw
  have hl : lv_has ls 5 [(0, .ref (a 6)), (1, .int x1), (2, .int x2), (3, .int x3)] := hl
  generalize va_A [e_Fin a Fin_chained Fin_length Fin_distance, e_ar a n cI 9 rb] s.heap.size = A at hw ⊢
  obtain ⟨hx, hb, hml, hown, hts⟩ := id E
  unfold wp_Fin_sameBytes at h
  refine lv_iconst (v := 0) hx hb d_Fin_sameBytes_0 (by decide) ?_
  refine lv_istore (lv' := [(4, .int 0), (0, .ref (a 6)), (1, .int x1), (2, .int x2), (3, .int x3)]) hx hb d_Fin_sameBytes_1 hl (by decide) rfl (fun ls hl => ?_)
  obtain ⟨N7, h⟩ := h
  exact s_Fin_sameBytes_3 (a := a) (n := n) (tb := tb) E hr hlk  N7 0 _ _ ls hw (lv_sub hl [1, 2, 3, 4, 0] rfl) h
-- PicturePacker$RunFinder.keepIfLonger(III)V
theorem d_Fin_keepIfLonger_0 : decode prog_7_method_4_code 0 = .ok (.aload_n 0, 1) := by decide +kernel
theorem d_Fin_keepIfLonger_1 : decode prog_7_method_4_code 1 = .ok (.iload_n 1, 1) := by decide +kernel
theorem d_Fin_keepIfLonger_2 : decode prog_7_method_4_code 2 = .ok (.iload_n 2, 1) := by decide +kernel
theorem d_Fin_keepIfLonger_3 : decode prog_7_method_4_code 3 = .ok (.iload_n 3, 1) := by decide +kernel
theorem d_Fin_keepIfLonger_4 : decode prog_7_method_4_code 4 = .ok (.invokevirtual 55, 3) := by decide +kernel
theorem d_Fin_keepIfLonger_7 : decode prog_7_method_4_code 7 = .ok (.istore 4, 2) := by decide +kernel
theorem d_Fin_keepIfLonger_9 : decode prog_7_method_4_code 9 = .ok (.iload 4, 2) := by decide +kernel
theorem d_Fin_keepIfLonger_11 : decode prog_7_method_4_code 11 = .ok (.iconst 3, 1) := by decide +kernel
theorem d_Fin_keepIfLonger_12 : decode prog_7_method_4_code 12 = .ok (.if_icmp .lt 25, 3) := by decide +kernel
theorem d_Fin_keepIfLonger_15 : decode prog_7_method_4_code 15 = .ok (.iload 4, 2) := by decide +kernel
theorem d_Fin_keepIfLonger_17 : decode prog_7_method_4_code 17 = .ok (.aload_n 0, 1) := by decide +kernel
theorem d_Fin_keepIfLonger_18 : decode prog_7_method_4_code 18 = .ok (.getfield 31, 3) := by decide +kernel
theorem d_Fin_keepIfLonger_21 : decode prog_7_method_4_code 21 = .ok (.if_icmp .le 16, 3) := by decide +kernel
theorem d_Fin_keepIfLonger_24 : decode prog_7_method_4_code 24 = .ok (.aload_n 0, 1) := by decide +kernel
theorem d_Fin_keepIfLonger_25 : decode prog_7_method_4_code 25 = .ok (.iload 4, 2) := by decide +kernel
theorem d_Fin_keepIfLonger_27 : decode prog_7_method_4_code 27 = .ok (.putfield 31, 3) := by decide +kernel
theorem d_Fin_keepIfLonger_30 : decode prog_7_method_4_code 30 = .ok (.aload_n 0, 1) := by decide +kernel
theorem d_Fin_keepIfLonger_31 : decode prog_7_method_4_code 31 = .ok (.iload_n 2, 1) := by decide +kernel
theorem d_Fin_keepIfLonger_32 : decode prog_7_method_4_code 32 = .ok (.iload_n 1, 1) := by decide +kernel
theorem d_Fin_keepIfLonger_33 : decode prog_7_method_4_code 33 = .ok (.isub, 1) := by decide +kernel
theorem d_Fin_keepIfLonger_34 : decode prog_7_method_4_code 34 = .ok (.putfield 34, 3) := by decide +kernel
theorem d_Fin_keepIfLonger_37 : decode prog_7_method_4_code 37 = .ok (.return_, 1) := by decide +kernel
abbrev y_Fin_keepIfLonger : MethodName := ⟨"PicturePacker$RunFinder", "keepIfLonger", "(III)V"⟩
def wp_Fin_keepIfLonger (n : Nat → Nat) (Fin_length : Int32) (Fin_distance : Int32) (rb : Nat → Int32) (x1 : Int32) (x2 : Int32) (x3 : Int32) (post : Int32 × Int32 → Prop) : Prop := wp_Fin_sameBytes n rb x1 x2 x3 (fun r2 _ => ((r2 : Int32) < 3 → (post (Fin_length, Fin_distance))) ∧ (¬ ((r2 : Int32) < 3) → (((r2 : Int32) ≤ Fin_length → (post (Fin_length, Fin_distance))) ∧ (¬ ((r2 : Int32) ≤ Fin_length) → (∀ z5 : Int32, z5 = (x2 - x1) → (post (r2, z5)))))))
set_option maxHeartbeats 2000000 in
set_option maxRecDepth 20000 in
theorem c_Fin_keepIfLonger {l : Launch} {dC : Nat → ClassId} {dI : Nat → Nat → Nat} {cI : ClassId} {tb : Tbs} {a n : Nat → Nat} {Fin_chained : Int32} {Fin_length : Int32} {Fin_distance : Int32} {rb : Nat → Int32} {x1 : Int32} {x2 : Int32} {x3 : Int32} {post : Int32 × Int32 → Prop} (h : wp_Fin_keepIfLonger n Fin_length Fin_distance rb x1 x2 x3 post) : CtV classes dC dI cI tb l y_Fin_keepIfLonger prog_7_method_4_code 5 ({ frames := 1, cells := 0, slots := 0, locals := 24 }) [.ref (a 6), .int x1, .int x2, .int x3] [e_Fin a Fin_chained Fin_length Fin_distance, e_ar a n cI 9 rb] (Int32 × Int32) (fun u => [e_Fin a Fin_chained u.1 u.2, e_ar a n cI 9 rb]) post := by
  refine startV (by decide) (Nat.le_of_ble_eq_true rfl) ?_
  intro p e s m below meth c ls E hr hlk hnm hl hw
  have hl : lv_has ls 5 [(0, .ref (a 6)), (1, .int x1), (2, .int x2), (3, .int x3)] := hl
  generalize va_A [e_Fin a Fin_chained Fin_length Fin_distance, e_ar a n cI 9 rb] s.heap.size = A at hw ⊢
  obtain ⟨hx, hb, hml, hown, hts⟩ := id E
  unfold wp_Fin_keepIfLonger at h
  refine lv_aload_n hx hb d_Fin_keepIfLonger_0 rfl (lv_at hl 0 rfl) ?_
  refine lv_iload_n hx hb d_Fin_keepIfLonger_1 rfl (lv_at hl 1 rfl) ?_
  refine lv_iload_n hx hb d_Fin_keepIfLonger_2 rfl (lv_at hl 2 rfl) ?_
  refine lv_iload_n hx hb d_Fin_keepIfLonger_3 rfl (lv_at hl 3 rfl) ?_
  refine kVi (y := y_Fin_sameBytes) (ws' := fun _ => [e_Fin a Fin_chained Fin_length Fin_distance, e_ar a n cI 9 rb]) (wr := []) (As := [.int x1, .int x2, .int x3]) (rest := []) E hw (c_Fin_sameBytes (l := l) (dC := dC) (dI := dI) (cI := cI) (tb := tb) (a := a) (n := n) (Fin_chained := Fin_chained) (Fin_length := Fin_length) (Fin_distance := Fin_distance) (rb := rb) (x1 := x1) (x2 := x2) (x3 := x3) h) tw368 tw370 tw9 tw41 tw371 3 (by decide) ⟨Nat.le_of_ble_eq_true rfl, Nat.le_of_ble_eq_true rfl⟩ ⟨Nat.le_of_ble_eq_true rfl, Nat.le_of_ble_eq_true rfl⟩ ⟨rfl, rfl⟩ rfl rfl 0 rfl [0, 1] [] [0, 1] rfl rfl rfl rfl (by decide) rfl (fun _ => rfl) hl.1 rfl rfl (Nat.le_of_ble_eq_true rfl) d_Fin_keepIfLonger_4 (fun r2 u1 H locs h hw => ?_)
  refine lv_istore (lv' := [(4, .int r2), (0, .ref (a 6)), (1, .int x1), (2, .int x2), (3, .int x3)]) hx hb d_Fin_keepIfLonger_7 hl (by decide) rfl (fun ls hl => ?_)
  refine lv_iload hx hb d_Fin_keepIfLonger_9 (lv_at hl 0 rfl) ?_
  refine lv_iconst (v := 3) hx hb d_Fin_keepIfLonger_11 (by decide) ?_
  refine lv_icmp_lt (tgt := 37) hx hb d_Fin_keepIfLonger_12 (by decide) (fun c3 => ?_) (fun c3 => ?_)
  · have h := h.1 c3
    exact retV (out := fun u => [e_Fin a Fin_chained u.1 u.2, e_ar a n cI 9 rb]) (u := (Fin_length, Fin_distance)) E hr hlk hw h d_Fin_keepIfLonger_37
  · have h := h.2 c3
    refine lv_iload hx hb d_Fin_keepIfLonger_15 (lv_at hl 0 rfl) ?_
    refine lv_aload_n hx hb d_Fin_keepIfLonger_17 rfl (lv_at hl 1 rfl) ?_
    refine kget (v := .int Fin_length) (T := F_Fin) E hw in_Fin rfl 0 4 rfl (by decide) tw171 rfl d_Fin_keepIfLonger_18 ?_
    refine lv_icmp_le (tgt := 37) hx hb d_Fin_keepIfLonger_21 (by decide) (fun c4 => ?_) (fun c4 => ?_)
    · have h := h.1 c4
      exact retV (out := fun u => [e_Fin a Fin_chained u.1 u.2, e_ar a n cI 9 rb]) (u := (Fin_length, Fin_distance)) E hr hlk hw h d_Fin_keepIfLonger_37
    · have h := h.2 c4
      refine lv_aload_n hx hb d_Fin_keepIfLonger_24 rfl (lv_at hl 1 rfl) ?_
      refine lv_iload hx hb d_Fin_keepIfLonger_25 (lv_at hl 0 rfl) ?_
      refine kput (v := .int r2) (ty := .int) (T := F_Fin) (ws' := [e_Fin a Fin_chained r2 Fin_distance, e_ar a n cI 9 rb]) E hw in_Fin t_Fin t_Fin_ok n_Fin rfl 0 4 rfl (by decide) tw171 rfl rfl rfl rfl (Nat.le_of_ble_eq_true rfl) rfl d_Fin_keepIfLonger_27 (fun H locs hw => ?_)
      refine lv_aload_n hx hb d_Fin_keepIfLonger_30 rfl (lv_at hl 1 rfl) ?_
      refine lv_iload_n hx hb d_Fin_keepIfLonger_31 rfl (lv_at hl 3 rfl) ?_
      refine lv_iload_n hx hb d_Fin_keepIfLonger_32 rfl (lv_at hl 2 rfl) ?_
      refine lv_isub hx hb d_Fin_keepIfLonger_33 ?_
      refine lv_topi (fun z5 ez5 => ?_)
      have h := h z5 ez5
      refine kput (v := .int z5) (ty := .int) (T := F_Fin) (ws' := [e_Fin a Fin_chained r2 z5, e_ar a n cI 9 rb]) E hw in_Fin t_Fin t_Fin_ok n_Fin rfl 0 5 rfl (by decide) tw173 rfl rfl rfl rfl (Nat.le_of_ble_eq_true rfl) rfl d_Fin_keepIfLonger_34 (fun H locs hw => ?_)
      exact retV (out := fun u => [e_Fin a Fin_chained u.1 u.2, e_ar a n cI 9 rb]) (u := (r2, z5)) E hr hlk hw h d_Fin_keepIfLonger_37
-- PicturePacker$RunFinder.lookFrom(I)V
theorem d_Fin_lookFrom_0 : decode prog_7_method_3_code 0 = .ok (.aload_n 0, 1) := by decide +kernel
theorem d_Fin_lookFrom_1 : decode prog_7_method_3_code 1 = .ok (.iconst 0, 1) := by decide +kernel
theorem d_Fin_lookFrom_2 : decode prog_7_method_3_code 2 = .ok (.putfield 31, 3) := by decide +kernel
theorem d_Fin_lookFrom_5 : decode prog_7_method_3_code 5 = .ok (.aload_n 0, 1) := by decide +kernel
theorem d_Fin_lookFrom_6 : decode prog_7_method_3_code 6 = .ok (.iconst 0, 1) := by decide +kernel
theorem d_Fin_lookFrom_7 : decode prog_7_method_3_code 7 = .ok (.putfield 34, 3) := by decide +kernel
theorem d_Fin_lookFrom_10 : decode prog_7_method_3_code 10 = .ok (.aload_n 0, 1) := by decide +kernel
theorem d_Fin_lookFrom_11 : decode prog_7_method_3_code 11 = .ok (.iload_n 1, 1) := by decide +kernel
theorem d_Fin_lookFrom_12 : decode prog_7_method_3_code 12 = .ok (.invokevirtual 37, 3) := by decide +kernel
theorem d_Fin_lookFrom_15 : decode prog_7_method_3_code 15 = .ok (.sipush 258, 3) := by decide +kernel
theorem d_Fin_lookFrom_18 : decode prog_7_method_3_code 18 = .ok (.aload_n 0, 1) := by decide +kernel
theorem d_Fin_lookFrom_19 : decode prog_7_method_3_code 19 = .ok (.getfield 9, 3) := by decide +kernel
theorem d_Fin_lookFrom_22 : decode prog_7_method_3_code 22 = .ok (.arraylength, 1) := by decide +kernel
theorem d_Fin_lookFrom_23 : decode prog_7_method_3_code 23 = .ok (.iload_n 1, 1) := by decide +kernel
theorem d_Fin_lookFrom_24 : decode prog_7_method_3_code 24 = .ok (.isub, 1) := by decide +kernel
theorem d_Fin_lookFrom_25 : decode prog_7_method_3_code 25 = .ok (.invokestatic 41, 3) := by decide +kernel
theorem d_Fin_lookFrom_28 : decode prog_7_method_3_code 28 = .ok (.istore_n 2, 1) := by decide +kernel
theorem d_Fin_lookFrom_29 : decode prog_7_method_3_code 29 = .ok (.iload_n 1, 1) := by decide +kernel
theorem d_Fin_lookFrom_30 : decode prog_7_method_3_code 30 = .ok (.ifCond .lt 8, 3) := by decide +kernel
theorem d_Fin_lookFrom_33 : decode prog_7_method_3_code 33 = .ok (.iload_n 2, 1) := by decide +kernel
theorem d_Fin_lookFrom_34 : decode prog_7_method_3_code 34 = .ok (.iconst 3, 1) := by decide +kernel
theorem d_Fin_lookFrom_35 : decode prog_7_method_3_code 35 = .ok (.if_icmp .ge 4, 3) := by decide +kernel
theorem d_Fin_lookFrom_38 : decode prog_7_method_3_code 38 = .ok (.return_, 1) := by decide +kernel
theorem d_Fin_lookFrom_39 : decode prog_7_method_3_code 39 = .ok (.aload_n 0, 1) := by decide +kernel
theorem d_Fin_lookFrom_40 : decode prog_7_method_3_code 40 = .ok (.getfield 15, 3) := by decide +kernel
theorem d_Fin_lookFrom_43 : decode prog_7_method_3_code 43 = .ok (.aload_n 0, 1) := by decide +kernel
theorem d_Fin_lookFrom_44 : decode prog_7_method_3_code 44 = .ok (.iload_n 1, 1) := by decide +kernel
theorem d_Fin_lookFrom_45 : decode prog_7_method_3_code 45 = .ok (.invokevirtual 47, 3) := by decide +kernel
theorem d_Fin_lookFrom_48 : decode prog_7_method_3_code 48 = .ok (.iaload, 1) := by decide +kernel
theorem d_Fin_lookFrom_49 : decode prog_7_method_3_code 49 = .ok (.istore_n 3, 1) := by decide +kernel
theorem d_Fin_lookFrom_50 : decode prog_7_method_3_code 50 = .ok (.iconst 0, 1) := by decide +kernel
theorem d_Fin_lookFrom_51 : decode prog_7_method_3_code 51 = .ok (.istore 4, 2) := by decide +kernel
theorem d_Fin_lookFrom_53 : decode prog_7_method_3_code 53 = .ok (.iload 4, 2) := by decide +kernel
theorem d_Fin_lookFrom_55 : decode prog_7_method_3_code 55 = .ok (.iload_n 1, 1) := by decide +kernel
theorem d_Fin_lookFrom_56 : decode prog_7_method_3_code 56 = .ok (.if_icmp .ge 66, 3) := by decide +kernel
theorem d_Fin_lookFrom_59 : decode prog_7_method_3_code 59 = .ok (.aload_n 0, 1) := by decide +kernel
theorem d_Fin_lookFrom_60 : decode prog_7_method_3_code 60 = .ok (.getfield 31, 3) := by decide +kernel
theorem d_Fin_lookFrom_63 : decode prog_7_method_3_code 63 = .ok (.iload_n 2, 1) := by decide +kernel
theorem d_Fin_lookFrom_64 : decode prog_7_method_3_code 64 = .ok (.if_icmp .ge 58, 3) := by decide +kernel
theorem d_Fin_lookFrom_67 : decode prog_7_method_3_code 67 = .ok (.iload_n 3, 1) := by decide +kernel
theorem d_Fin_lookFrom_68 : decode prog_7_method_3_code 68 = .ok (.ifCond .lt 8, 3) := by decide +kernel
theorem d_Fin_lookFrom_71 : decode prog_7_method_3_code 71 = .ok (.iload_n 3, 1) := by decide +kernel
theorem d_Fin_lookFrom_72 : decode prog_7_method_3_code 72 = .ok (.iload_n 1, 1) := by decide +kernel
theorem d_Fin_lookFrom_73 : decode prog_7_method_3_code 73 = .ok (.if_icmp .lt 4, 3) := by decide +kernel
theorem d_Fin_lookFrom_76 : decode prog_7_method_3_code 76 = .ok (.return_, 1) := by decide +kernel
theorem d_Fin_lookFrom_77 : decode prog_7_method_3_code 77 = .ok (.aload_n 0, 1) := by decide +kernel
theorem d_Fin_lookFrom_78 : decode prog_7_method_3_code 78 = .ok (.getfield 9, 3) := by decide +kernel
theorem d_Fin_lookFrom_81 : decode prog_7_method_3_code 81 = .ok (.iload_n 3, 1) := by decide +kernel
theorem d_Fin_lookFrom_82 : decode prog_7_method_3_code 82 = .ok (.aload_n 0, 1) := by decide +kernel
theorem d_Fin_lookFrom_83 : decode prog_7_method_3_code 83 = .ok (.getfield 31, 3) := by decide +kernel
theorem d_Fin_lookFrom_86 : decode prog_7_method_3_code 86 = .ok (.iadd, 1) := by decide +kernel
theorem d_Fin_lookFrom_87 : decode prog_7_method_3_code 87 = .ok (.iaload, 1) := by decide +kernel
theorem d_Fin_lookFrom_88 : decode prog_7_method_3_code 88 = .ok (.aload_n 0, 1) := by decide +kernel
theorem d_Fin_lookFrom_89 : decode prog_7_method_3_code 89 = .ok (.getfield 9, 3) := by decide +kernel
theorem d_Fin_lookFrom_92 : decode prog_7_method_3_code 92 = .ok (.iload_n 1, 1) := by decide +kernel
theorem d_Fin_lookFrom_93 : decode prog_7_method_3_code 93 = .ok (.aload_n 0, 1) := by decide +kernel
theorem d_Fin_lookFrom_94 : decode prog_7_method_3_code 94 = .ok (.getfield 31, 3) := by decide +kernel
theorem d_Fin_lookFrom_97 : decode prog_7_method_3_code 97 = .ok (.iadd, 1) := by decide +kernel
theorem d_Fin_lookFrom_98 : decode prog_7_method_3_code 98 = .ok (.iaload, 1) := by decide +kernel
theorem d_Fin_lookFrom_99 : decode prog_7_method_3_code 99 = .ok (.if_icmp .ne 10, 3) := by decide +kernel
theorem d_Fin_lookFrom_102 : decode prog_7_method_3_code 102 = .ok (.aload_n 0, 1) := by decide +kernel
theorem d_Fin_lookFrom_103 : decode prog_7_method_3_code 103 = .ok (.iload_n 3, 1) := by decide +kernel
theorem d_Fin_lookFrom_104 : decode prog_7_method_3_code 104 = .ok (.iload_n 1, 1) := by decide +kernel
theorem d_Fin_lookFrom_105 : decode prog_7_method_3_code 105 = .ok (.iload_n 2, 1) := by decide +kernel
theorem d_Fin_lookFrom_106 : decode prog_7_method_3_code 106 = .ok (.invokevirtual 51, 3) := by decide +kernel
theorem d_Fin_lookFrom_109 : decode prog_7_method_3_code 109 = .ok (.aload_n 0, 1) := by decide +kernel
theorem d_Fin_lookFrom_110 : decode prog_7_method_3_code 110 = .ok (.getfield 18, 3) := by decide +kernel
theorem d_Fin_lookFrom_113 : decode prog_7_method_3_code 113 = .ok (.iload_n 3, 1) := by decide +kernel
theorem d_Fin_lookFrom_114 : decode prog_7_method_3_code 114 = .ok (.iaload, 1) := by decide +kernel
theorem d_Fin_lookFrom_115 : decode prog_7_method_3_code 115 = .ok (.istore_n 3, 1) := by decide +kernel
theorem d_Fin_lookFrom_116 : decode prog_7_method_3_code 116 = .ok (.iinc 4 1, 3) := by decide +kernel
theorem d_Fin_lookFrom_119 : decode prog_7_method_3_code 119 = .ok (.goto (-66), 3) := by decide +kernel
theorem d_Fin_lookFrom_122 : decode prog_7_method_3_code 122 = .ok (.return_, 1) := by decide +kernel
abbrev y_Fin_lookFrom : MethodName := ⟨"PicturePacker$RunFinder", "lookFrom", "(I)V"⟩
def wp_Fin_lookFrom_53 (n : Nat → Nat) (rb : Nat → Int32) (x1 : Int32) (post : Int32 × Int32 × Int32 × (Nat → Int32) × (Nat → Int32) → Prop) : Nat → Int32 → Int32 → Int32 → (Nat → Int32) → (Nat → Int32) → Int32 → Int32 → Int32 → Prop
  | 0 => fun _ _ _ _ _ _ _ _ => False
  | N + 1 => fun Fin_chained Fin_length Fin_distance nw nx y2 y3 y4 => ((x1 : Int32) ≤ y4 → (post (Fin_chained, Fin_length, Fin_distance, nw, nx))) ∧ (¬ ((x1 : Int32) ≤ y4) → (((y2 : Int32) ≤ Fin_length → (post (Fin_chained, Fin_length, Fin_distance, nw, nx))) ∧ (¬ ((y2 : Int32) ≤ Fin_length) → (((y3 : Int32) < 0 → (post (Fin_chained, Fin_length, Fin_distance, nw, nx))) ∧ (¬ ((y3 : Int32) < 0) → (((y3 : Int32) < x1 → (vp_in (y3 + Fin_length) (n 9) ∧ (vp_in (x1 + Fin_length) (n 9) ∧ ((¬ (rb (y3 + Fin_length : Int32).toNatClampNeg : Int32) = (rb (x1 + Fin_length : Int32).toNatClampNeg) → (vp_in y3 (n 14) ∧ (∀ z18 : Int32, z18 = (nx (y3 : Int32).toNatClampNeg) → (∀ z19 : Int32, z19 = (y4 + 1) → (wp_Fin_lookFrom_53 n rb x1 post N Fin_chained Fin_length Fin_distance nw nx y2 z18 z19))))) ∧ ((rb (y3 + Fin_length : Int32).toNatClampNeg : Int32) = (rb (x1 + Fin_length : Int32).toNatClampNeg) → (wp_Fin_keepIfLonger n Fin_length Fin_distance rb y3 x1 y2 (fun u20 => vp_in y3 (n 14) ∧ (∀ z23 : Int32, z23 = (nx (y3 : Int32).toNatClampNeg) → (∀ z24 : Int32, z24 = (y4 + 1) → (wp_Fin_lookFrom_53 n rb x1 post N Fin_chained u20.1 u20.2 nw nx y2 z23 z24)))))))))) ∧ (¬ ((y3 : Int32) < x1) → (post (Fin_chained, Fin_length, Fin_distance, nw, nx)))))))))
def wp_Fin_lookFrom (n : Nat → Nat) (Fin_chained : Int32) (Fin_length : Int32) (Fin_distance : Int32) (rb : Nat → Int32) (nw : Nat → Int32) (nx : Nat → Int32) (x1 : Int32) (post : Int32 × Int32 × Int32 × (Nat → Int32) × (Nat → Int32) → Prop) : Prop := wp_Fin_chainUpTo n Fin_chained rb nw nx x1 (fun u1 => ∀ z3 : Int32, z3 = (if ((nI (n 9)) - x1 : Int32) < 258 then (nI (n 9)) - x1 else 258) → (((x1 : Int32) < 0 → (post (u1.1, 0, 0, u1.2.1, u1.2.2))) ∧ (¬ ((x1 : Int32) < 0) → (((3 : Int32) ≤ z3 → (wp_Fin_mark n rb x1 (fun r7 _ => vp_in r7 (n 13) ∧ (∀ z9 : Int32, z9 = (u1.2.1 (r7 : Int32).toNatClampNeg) → (∃ N25 : Nat, wp_Fin_lookFrom_53 n rb x1 post N25 u1.1 0 0 u1.2.1 u1.2.2 z3 z9 0))))) ∧ (¬ ((3 : Int32) ≤ z3) → (post (u1.1, 0, 0, u1.2.1, u1.2.2)))))))
set_option maxHeartbeats 2000000 in
set_option maxRecDepth 20000 in
theorem s_Fin_lookFrom_53 {l : Launch} {dC : Nat → ClassId} {dI : Nat → Nat → Nat} {cI : ClassId} {tb : Tbs} {a n : Nat → Nat} {p : Program} {e : Env} {s : State} {m : MethodId} {args : Array Value} {below : List Frame} {meth : Method} {c : Code} {A : Nat → Prop} (E : CallFix p m c prog_7_method_3_code 5 s args TBL "PicturePacker$RunFinder") (hr : meth.sig.returnType = none) (hlk : meth.locks = false) {rb : Nat → Int32} {x1 : Int32} {post : Int32 × Int32 × Int32 × (Nat → Int32) × (Nat → Int32) → Prop} : ∀ (N : Nat) (Fin_chained : Int32) (Fin_length : Int32) (Fin_distance : Int32) (nw : Nat → Int32) (nx : Nat → Int32) (y2 : Int32) (y3 : Int32) (y4 : Int32) (H : Heap) (locs : List Loc) (ls : Array Slot), Wl classes dC dI cI tb A s H locs [e_Fin a Fin_chained Fin_length Fin_distance, e_ar a n cI 9 rb, e_ar a n cI 13 nw, e_ar a n cI 14 nx] → lv_has ls 5 [(0, .ref (a 6)), (1, .int x1), (2, .int y2), (3, .int y3), (4, .int y4)] → wp_Fin_lookFrom_53 n rb x1 post N Fin_chained Fin_length Fin_distance nw nx y2 y3 y4 → W p l e ({ frames := 2, cells := 0, slots := 0, locals := 48 }) s m args below meth c H locs 0 0 (MQ below (va_Qv post (fun u => End0 classes dC dI cI A [e_Fin a u.1 u.2.1 u.2.2.1, e_ar a n cI 9 rb, e_ar a n cI 13 u.2.2.2.1, e_ar a n cI 14 u.2.2.2.2]) A) args s 0 0 A) (F0 m 53 ls []) := by
  obtain ⟨hx, hb, hml, hown, hts⟩ := id E
  intro N
  induction N with
  | zero =>
    intro _ _ _ _ _ _ _ _ H locs ls hw hl h
    exact absurd h id
  | succ N ih =>
    intro Fin_chained Fin_length Fin_distance nw nx y2 y3 y4 H locs ls hw hl h
    unfold wp_Fin_lookFrom_53 at h
    refine lv_iload hx hb d_Fin_lookFrom_53 (lv_at hl 4 rfl) ?_
    refine lv_iload_n hx hb d_Fin_lookFrom_55 rfl (lv_at hl 1 rfl) ?_
    refine lv_icmp_ge (tgt := 122) hx hb d_Fin_lookFrom_56 (by decide) (fun c10 => ?_) (fun c10 => ?_)
    · have h := h.1 c10
      exact retV (out := fun u => [e_Fin a u.1 u.2.1 u.2.2.1, e_ar a n cI 9 rb, e_ar a n cI 13 u.2.2.2.1, e_ar a n cI 14 u.2.2.2.2]) (u := (Fin_chained, Fin_length, Fin_distance, nw, nx)) E hr hlk hw h d_Fin_lookFrom_122
    · have h := h.2 c10
      refine lv_aload_n hx hb d_Fin_lookFrom_59 rfl (lv_at hl 0 rfl) ?_
      refine kget (v := .int Fin_length) (T := F_Fin) E hw in_Fin rfl 0 4 rfl (by decide) tw171 rfl d_Fin_lookFrom_60 ?_
      refine lv_iload_n hx hb d_Fin_lookFrom_63 rfl (lv_at hl 2 rfl) ?_
      refine lv_icmp_ge (tgt := 122) hx hb d_Fin_lookFrom_64 (by decide) (fun c11 => ?_) (fun c11 => ?_)
      · have h := h.1 c11
        exact retV (out := fun u => [e_Fin a u.1 u.2.1 u.2.2.1, e_ar a n cI 9 rb, e_ar a n cI 13 u.2.2.2.1, e_ar a n cI 14 u.2.2.2.2]) (u := (Fin_chained, Fin_length, Fin_distance, nw, nx)) E hr hlk hw h d_Fin_lookFrom_122
      · have h := h.2 c11
        refine lv_iload_n hx hb d_Fin_lookFrom_67 rfl (lv_at hl 3 rfl) ?_
        refine lv_if_lt (tgt := 76) hx hb d_Fin_lookFrom_68 (by decide) (fun c12 => ?_) (fun c12 => ?_)
        · have h := h.1 c12
          exact retV (out := fun u => [e_Fin a u.1 u.2.1 u.2.2.1, e_ar a n cI 9 rb, e_ar a n cI 13 u.2.2.2.1, e_ar a n cI 14 u.2.2.2.2]) (u := (Fin_chained, Fin_length, Fin_distance, nw, nx)) E hr hlk hw h d_Fin_lookFrom_76
        · have h := h.2 c12
          refine lv_iload_n hx hb d_Fin_lookFrom_71 rfl (lv_at hl 3 rfl) ?_
          refine lv_iload_n hx hb d_Fin_lookFrom_72 rfl (lv_at hl 1 rfl) ?_
          refine lv_icmp_lt (tgt := 77) hx hb d_Fin_lookFrom_73 (by decide) (fun c13 => ?_) (fun c13 => ?_)
          · have h := h.1 c13
            refine lv_aload_n hx hb d_Fin_lookFrom_77 rfl (lv_at hl 0 rfl) ?_
            refine kget (v := .ref (a 9)) (T := F_Fin) E hw in_Fin rfl 0 0 rfl (by decide) tw166 rfl d_Fin_lookFrom_78 ?_
            refine lv_iload_n hx hb d_Fin_lookFrom_81 rfl (lv_at hl 3 rfl) ?_
            refine lv_aload_n hx hb d_Fin_lookFrom_82 rfl (lv_at hl 0 rfl) ?_
            refine kget (v := .int Fin_length) (T := F_Fin) E hw in_Fin rfl 0 4 rfl (by decide) tw171 rfl d_Fin_lookFrom_83 ?_
            refine lv_iadd hx hb d_Fin_lookFrom_86 ?_
            obtain ⟨b14, h⟩ := h
            refine kald E hw 1 rfl b14 d_Fin_lookFrom_87 ?_
            refine lv_aload_n hx hb d_Fin_lookFrom_88 rfl (lv_at hl 0 rfl) ?_
            refine kget (v := .ref (a 9)) (T := F_Fin) E hw in_Fin rfl 0 0 rfl (by decide) tw166 rfl d_Fin_lookFrom_89 ?_
            refine lv_iload_n hx hb d_Fin_lookFrom_92 rfl (lv_at hl 1 rfl) ?_
            refine lv_aload_n hx hb d_Fin_lookFrom_93 rfl (lv_at hl 0 rfl) ?_
            refine kget (v := .int Fin_length) (T := F_Fin) E hw in_Fin rfl 0 4 rfl (by decide) tw171 rfl d_Fin_lookFrom_94 ?_
            refine lv_iadd hx hb d_Fin_lookFrom_97 ?_
            obtain ⟨b15, h⟩ := h
            refine kald E hw 1 rfl b15 d_Fin_lookFrom_98 ?_
            refine lv_icmp_ne (tgt := 109) hx hb d_Fin_lookFrom_99 (by decide) (fun c16 => ?_) (fun c16 => ?_)
            · have h := h.1 c16
              refine lv_aload_n hx hb d_Fin_lookFrom_109 rfl (lv_at hl 0 rfl) ?_
              refine kget (v := .ref (a 14)) (T := F_Fin) E hw in_Fin rfl 0 2 rfl (by decide) tw168 rfl d_Fin_lookFrom_110 ?_
              refine lv_iload_n hx hb d_Fin_lookFrom_113 rfl (lv_at hl 3 rfl) ?_
              obtain ⟨b17, h⟩ := h
              refine kald E hw 3 rfl b17 d_Fin_lookFrom_114 ?_
              refine lv_topi (fun z18 ez18 => ?_)
              have h := h z18 ez18
              refine lv_istore_n (lv' := [(3, .int z18), (0, .ref (a 6)), (1, .int x1), (2, .int y2), (4, .int y4)]) hx hb d_Fin_lookFrom_115 rfl hl (by decide) rfl (fun ls hl => ?_)
              obtain ⟨z19, ez19⟩ : ∃ z : Int32, z = y4 + 1 := ⟨_, rfl⟩
              have h := h z19 ez19
              refine lv_iinc (v := z19) (lv' := [(4, .int z19), (3, .int z18), (0, .ref (a 6)), (1, .int x1), (2, .int y2)]) hx hb d_Fin_lookFrom_116 hl (k := 4) rfl (by rw [ez19]; exact congrArg (y4 + ·) (by decide)) (by decide) rfl (fun ls hl => ?_)
              refine lv_goto (tgt := 53) hx hb d_Fin_lookFrom_119 (by decide) ?_
              exact ih Fin_chained Fin_length Fin_distance nw nx y2 z18 z19 _ _ ls hw (lv_sub hl [2, 3, 4, 1, 0] rfl) h
            · have h := h.2 c16
              refine lv_aload_n hx hb d_Fin_lookFrom_102 rfl (lv_at hl 0 rfl) ?_
              refine lv_iload_n hx hb d_Fin_lookFrom_103 rfl (lv_at hl 3 rfl) ?_
              refine lv_iload_n hx hb d_Fin_lookFrom_104 rfl (lv_at hl 1 rfl) ?_
              refine lv_iload_n hx hb d_Fin_lookFrom_105 rfl (lv_at hl 2 rfl) ?_
              refine kVv (y := y_Fin_keepIfLonger) (ws' := fun u20 => [e_Fin a Fin_chained u20.1 u20.2, e_ar a n cI 9 rb, e_ar a n cI 13 nw, e_ar a n cI 14 nx]) (wr := [e_ar a n cI 13 nw, e_ar a n cI 14 nx]) (As := [.int y3, .int x1, .int y2]) (rest := []) E hw (c_Fin_keepIfLonger (l := l) (dC := dC) (dI := dI) (cI := cI) (tb := tb) (a := a) (n := n) (Fin_chained := Fin_chained) (Fin_length := Fin_length) (Fin_distance := Fin_distance) (rb := rb) (x1 := y3) (x2 := x1) (x3 := y2) h) tw364 tw366 tw8 tw41 tw367 3 (by decide) ⟨Nat.le_of_ble_eq_true rfl, Nat.le_of_ble_eq_true rfl⟩ ⟨Nat.le_of_ble_eq_true rfl, Nat.le_of_ble_eq_true rfl⟩ ⟨rfl, rfl⟩ rfl rfl 0 rfl [0, 1] [2, 3] [2, 3, 0, 1] rfl rfl rfl rfl (by decide) rfl (fun _ => rfl) hl.1 rfl rfl (Nat.le_of_ble_eq_true rfl) d_Fin_lookFrom_106 (fun u20 H locs h hw => ?_)
              refine lv_aload_n hx hb d_Fin_lookFrom_109 rfl (lv_at hl 0 rfl) ?_
              refine kget (v := .ref (a 14)) (T := F_Fin) E hw in_Fin rfl 0 2 rfl (by decide) tw168 rfl d_Fin_lookFrom_110 ?_
              refine lv_iload_n hx hb d_Fin_lookFrom_113 rfl (lv_at hl 3 rfl) ?_
              obtain ⟨b22, h⟩ := h
              refine kald E hw 3 rfl b22 d_Fin_lookFrom_114 ?_
              refine lv_topi (fun z23 ez23 => ?_)
              have h := h z23 ez23
              refine lv_istore_n (lv' := [(3, .int z23), (0, .ref (a 6)), (1, .int x1), (2, .int y2), (4, .int y4)]) hx hb d_Fin_lookFrom_115 rfl hl (by decide) rfl (fun ls hl => ?_)
              obtain ⟨z24, ez24⟩ : ∃ z : Int32, z = y4 + 1 := ⟨_, rfl⟩
              have h := h z24 ez24
              refine lv_iinc (v := z24) (lv' := [(4, .int z24), (3, .int z23), (0, .ref (a 6)), (1, .int x1), (2, .int y2)]) hx hb d_Fin_lookFrom_116 hl (k := 4) rfl (by rw [ez24]; exact congrArg (y4 + ·) (by decide)) (by decide) rfl (fun ls hl => ?_)
              refine lv_goto (tgt := 53) hx hb d_Fin_lookFrom_119 (by decide) ?_
              exact ih Fin_chained u20.1 u20.2 nw nx y2 z23 z24 _ _ ls hw (lv_sub hl [2, 3, 4, 1, 0] rfl) h
          · have h := h.2 c13
            exact retV (out := fun u => [e_Fin a u.1 u.2.1 u.2.2.1, e_ar a n cI 9 rb, e_ar a n cI 13 u.2.2.2.1, e_ar a n cI 14 u.2.2.2.2]) (u := (Fin_chained, Fin_length, Fin_distance, nw, nx)) E hr hlk hw h d_Fin_lookFrom_76
set_option maxHeartbeats 2000000 in
set_option maxRecDepth 20000 in
theorem c_Fin_lookFrom {l : Launch} {dC : Nat → ClassId} {dI : Nat → Nat → Nat} {cI : ClassId} {tb : Tbs} {a n : Nat → Nat} {Fin_chained : Int32} {Fin_length : Int32} {Fin_distance : Int32} {rb : Nat → Int32} {nw : Nat → Int32} {nx : Nat → Int32} {x1 : Int32} {post : Int32 × Int32 × Int32 × (Nat → Int32) × (Nat → Int32) → Prop} (h : wp_Fin_lookFrom n Fin_chained Fin_length Fin_distance rb nw nx x1 post) : CtV classes dC dI cI tb l y_Fin_lookFrom prog_7_method_3_code 5 ({ frames := 2, cells := 0, slots := 0, locals := 48 }) [.ref (a 6), .int x1] [e_Fin a Fin_chained Fin_length Fin_distance, e_ar a n cI 9 rb, e_ar a n cI 13 nw, e_ar a n cI 14 nx] (Int32 × Int32 × Int32 × (Nat → Int32) × (Nat → Int32)) (fun u => [e_Fin a u.1 u.2.1 u.2.2.1, e_ar a n cI 9 rb, e_ar a n cI 13 u.2.2.2.1, e_ar a n cI 14 u.2.2.2.2]) post := by
  refine startV (by decide) (Nat.le_of_ble_eq_true rfl) ?_
  intro p e s m below meth c ls E hr hlk hnm hl hw
  have hl : lv_has ls 5 [(0, .ref (a 6)), (1, .int x1)] := hl
  generalize va_A [e_Fin a Fin_chained Fin_length Fin_distance, e_ar a n cI 9 rb, e_ar a n cI 13 nw, e_ar a n cI 14 nx] s.heap.size = A at hw ⊢
  obtain ⟨hx, hb, hml, hown, hts⟩ := id E
  unfold wp_Fin_lookFrom at h
  refine lv_aload_n hx hb d_Fin_lookFrom_0 rfl (lv_at hl 0 rfl) ?_
  refine lv_iconst (v := 0) hx hb d_Fin_lookFrom_1 (by decide) ?_
  refine kput (v := .int 0) (ty := .int) (T := F_Fin) (ws' := [e_Fin a Fin_chained 0 Fin_distance, e_ar a n cI 9 rb, e_ar a n cI 13 nw, e_ar a n cI 14 nx]) E hw in_Fin t_Fin t_Fin_ok n_Fin rfl 0 4 rfl (by decide) tw171 rfl rfl rfl rfl (Nat.le_of_ble_eq_true rfl) rfl d_Fin_lookFrom_2 (fun H locs hw => ?_)
  refine lv_aload_n hx hb d_Fin_lookFrom_5 rfl (lv_at hl 0 rfl) ?_
  refine lv_iconst (v := 0) hx hb d_Fin_lookFrom_6 (by decide) ?_
  refine kput (v := .int 0) (ty := .int) (T := F_Fin) (ws' := [e_Fin a Fin_chained 0 0, e_ar a n cI 9 rb, e_ar a n cI 13 nw, e_ar a n cI 14 nx]) E hw in_Fin t_Fin t_Fin_ok n_Fin rfl 0 5 rfl (by decide) tw173 rfl rfl rfl rfl (Nat.le_of_ble_eq_true rfl) rfl d_Fin_lookFrom_7 (fun H locs hw => ?_)
  refine lv_aload_n hx hb d_Fin_lookFrom_10 rfl (lv_at hl 0 rfl) ?_
  refine lv_iload_n hx hb d_Fin_lookFrom_11 rfl (lv_at hl 1 rfl) ?_
  refine kVv (y := y_Fin_chainUpTo) (ws' := fun u1 => [e_Fin a u1.1 0 0, e_ar a n cI 9 rb, e_ar a n cI 13 u1.2.1, e_ar a n cI 14 u1.2.2]) (wr := []) (As := [.int x1]) (rest := []) E hw (c_Fin_chainUpTo (l := l) (dC := dC) (dI := dI) (cI := cI) (tb := tb) (a := a) (n := n) (Fin_chained := Fin_chained) (Fin_length := 0) (Fin_distance := 0) (rb := rb) (nw := nw) (nx := nx) (x1 := x1) h) tw355 tw357 tw6 tw41 tw358 1 (by decide) ⟨Nat.le_of_ble_eq_true rfl, Nat.le_of_ble_eq_true rfl⟩ ⟨Nat.le_of_ble_eq_true rfl, Nat.le_of_ble_eq_true rfl⟩ ⟨rfl, rfl⟩ rfl rfl 0 rfl [0, 1, 2, 3] [] [0, 1, 2, 3] rfl rfl rfl rfl (by decide) rfl (fun _ => rfl) hl.1 rfl rfl (Nat.le_of_ble_eq_true rfl) d_Fin_lookFrom_12 (fun u1 H locs h hw => ?_)
  refine lv_sipush (v := 258) hx hb d_Fin_lookFrom_15 (by decide) ?_
  refine lv_aload_n hx hb d_Fin_lookFrom_18 rfl (lv_at hl 0 rfl) ?_
  refine kget (v := .ref (a 9)) (T := F_Fin) E hw in_Fin rfl 0 0 rfl (by decide) tw166 rfl d_Fin_lookFrom_19 ?_
  refine kalen E hw 1 rfl d_Fin_lookFrom_22 ?_
  refine lv_iload_n hx hb d_Fin_lookFrom_23 rfl (lv_at hl 1 rfl) ?_
  refine lv_isub hx hb d_Fin_lookFrom_24 ?_
  refine kmin E hl.1 tw363 tw57 tw35 tw58 (Nat.le_of_ble_eq_true rfl) (Nat.le_of_ble_eq_true rfl) (Nat.le_of_ble_eq_true rfl) (Nat.le_of_ble_eq_true rfl) d_Fin_lookFrom_25 ?_
  refine lv_topi (fun z3 ez3 => ?_)
  have h := h z3 ez3
  refine lv_istore_n (lv' := [(2, .int z3), (0, .ref (a 6)), (1, .int x1)]) hx hb d_Fin_lookFrom_28 rfl hl (by decide) rfl (fun ls hl => ?_)
  refine lv_iload_n hx hb d_Fin_lookFrom_29 rfl (lv_at hl 2 rfl) ?_
  refine lv_if_lt (tgt := 38) hx hb d_Fin_lookFrom_30 (by decide) (fun c4 => ?_) (fun c4 => ?_)
  · have h := h.1 c4
    exact retV (out := fun u => [e_Fin a u.1 u.2.1 u.2.2.1, e_ar a n cI 9 rb, e_ar a n cI 13 u.2.2.2.1, e_ar a n cI 14 u.2.2.2.2]) (u := (u1.1, 0, 0, u1.2.1, u1.2.2)) E hr hlk hw h d_Fin_lookFrom_38
  · have h := h.2 c4
    refine lv_iload_n hx hb d_Fin_lookFrom_33 rfl (lv_at hl 0 rfl) ?_
    refine lv_iconst (v := 3) hx hb d_Fin_lookFrom_34 (by decide) ?_
    refine lv_icmp_ge (tgt := 39) hx hb d_Fin_lookFrom_35 (by decide) (fun c5 => ?_) (fun c5 => ?_)
    · have h := h.1 c5
      refine lv_aload_n hx hb d_Fin_lookFrom_39 rfl (lv_at hl 1 rfl) ?_
      refine kget (v := .ref (a 13)) (T := F_Fin) E hw in_Fin rfl 0 1 rfl (by decide) tw167 rfl d_Fin_lookFrom_40 ?_
      refine lv_aload_n hx hb d_Fin_lookFrom_43 rfl (lv_at hl 1 rfl) ?_
      refine lv_iload_n hx hb d_Fin_lookFrom_44 rfl (lv_at hl 2 rfl) ?_
      refine kVi (y := y_Fin_mark) (ws' := fun _ => [e_Fin a u1.1 0 0, e_ar a n cI 9 rb, e_ar a n cI 13 u1.2.1, e_ar a n cI 14 u1.2.2]) (wr := [e_ar a n cI 13 u1.2.1, e_ar a n cI 14 u1.2.2]) (As := [.int x1]) (rest := [.ref (a 13)]) E hw (c_Fin_mark (l := l) (dC := dC) (dI := dI) (cI := cI) (tb := tb) (a := a) (n := n) (Fin_chained := u1.1) (Fin_length := 0) (Fin_distance := 0) (rb := rb) (x1 := x1) h) tw359 tw361 tw7 tw41 tw362 1 (by decide) ⟨Nat.le_of_ble_eq_true rfl, Nat.le_of_ble_eq_true rfl⟩ ⟨Nat.le_of_ble_eq_true rfl, Nat.le_of_ble_eq_true rfl⟩ ⟨rfl, rfl⟩ rfl rfl 0 rfl [0, 1] [2, 3] [2, 3, 0, 1] rfl rfl rfl rfl (by decide) rfl (fun _ => rfl) hl.1 rfl rfl (Nat.le_of_ble_eq_true rfl) d_Fin_lookFrom_45 (fun r7 u6 H locs h hw => ?_)
      obtain ⟨b8, h⟩ := h
      refine kald E hw 2 rfl b8 d_Fin_lookFrom_48 ?_
      refine lv_topi (fun z9 ez9 => ?_)
      have h := h z9 ez9
      refine lv_istore_n (lv' := [(3, .int z9), (2, .int z3), (0, .ref (a 6)), (1, .int x1)]) hx hb d_Fin_lookFrom_49 rfl hl (by decide) rfl (fun ls hl => ?_)
      refine lv_iconst (v := 0) hx hb d_Fin_lookFrom_50 (by decide) ?_
      refine lv_istore (lv' := [(4, .int 0), (3, .int z9), (2, .int z3), (0, .ref (a 6)), (1, .int x1)]) hx hb d_Fin_lookFrom_51 hl (by decide) rfl (fun ls hl => ?_)
      obtain ⟨N25, h⟩ := h
      exact s_Fin_lookFrom_53 (a := a) (n := n) (tb := tb) E hr hlk  N25 u1.1 0 0 u1.2.1 u1.2.2 z3 z9 0 _ _ ls hw (lv_sub hl [3, 4, 2, 1, 0] rfl) h
    · have h := h.2 c5
      exact retV (out := fun u => [e_Fin a u.1 u.2.1 u.2.2.1, e_ar a n cI 9 rb, e_ar a n cI 13 u.2.2.2.1, e_ar a n cI 14 u.2.2.2.2]) (u := (u1.1, 0, 0, u1.2.1, u1.2.2)) E hr hlk hw h d_Fin_lookFrom_38
