-- PicturePacker$Picture.<init>(II)V
theorem d_Pic_init_0 : decode prog_5_method_1_code 0 = .ok (.aload_n 0, 1) := by decide +kernel
theorem d_Pic_init_1 : decode prog_5_method_1_code 1 = .ok (.invokespecial 3, 3) := by decide +kernel
theorem d_Pic_init_4 : decode prog_5_method_1_code 4 = .ok (.aload_n 0, 1) := by decide +kernel
theorem d_Pic_init_5 : decode prog_5_method_1_code 5 = .ok (.iload_n 1, 1) := by decide +kernel
theorem d_Pic_init_6 : decode prog_5_method_1_code 6 = .ok (.putfield 9, 3) := by decide +kernel
theorem d_Pic_init_9 : decode prog_5_method_1_code 9 = .ok (.aload_n 0, 1) := by decide +kernel
theorem d_Pic_init_10 : decode prog_5_method_1_code 10 = .ok (.iload_n 2, 1) := by decide +kernel
theorem d_Pic_init_11 : decode prog_5_method_1_code 11 = .ok (.putfield 15, 3) := by decide +kernel
theorem d_Pic_init_14 : decode prog_5_method_1_code 14 = .ok (.aload_n 0, 1) := by decide +kernel
theorem d_Pic_init_15 : decode prog_5_method_1_code 15 = .ok (.iconst 3, 1) := by decide +kernel
theorem d_Pic_init_16 : decode prog_5_method_1_code 16 = .ok (.iload_n 1, 1) := by decide +kernel
theorem d_Pic_init_17 : decode prog_5_method_1_code 17 = .ok (.iconst 1, 1) := by decide +kernel
theorem d_Pic_init_18 : decode prog_5_method_1_code 18 = .ok (.iadd, 1) := by decide +kernel
theorem d_Pic_init_19 : decode prog_5_method_1_code 19 = .ok (.imul, 1) := by decide +kernel
theorem d_Pic_init_20 : decode prog_5_method_1_code 20 = .ok (.putfield 18, 3) := by decide +kernel
theorem d_Pic_init_23 : decode prog_5_method_1_code 23 = .ok (.aload_n 0, 1) := by decide +kernel
theorem d_Pic_init_24 : decode prog_5_method_1_code 24 = .ok (.aload_n 0, 1) := by decide +kernel
theorem d_Pic_init_25 : decode prog_5_method_1_code 25 = .ok (.getfield 18, 3) := by decide +kernel
theorem d_Pic_init_28 : decode prog_5_method_1_code 28 = .ok (.iload_n 2, 1) := by decide +kernel
theorem d_Pic_init_29 : decode prog_5_method_1_code 29 = .ok (.iconst 1, 1) := by decide +kernel
theorem d_Pic_init_30 : decode prog_5_method_1_code 30 = .ok (.iadd, 1) := by decide +kernel
theorem d_Pic_init_31 : decode prog_5_method_1_code 31 = .ok (.imul, 1) := by decide +kernel
theorem d_Pic_init_32 : decode prog_5_method_1_code 32 = .ok (.newarray .int, 2) := by decide +kernel
theorem d_Pic_init_34 : decode prog_5_method_1_code 34 = .ok (.putfield 21, 3) := by decide +kernel
theorem d_Pic_init_37 : decode prog_5_method_1_code 37 = .ok (.return_, 1) := by decide +kernel
abbrev y_Pic_init : MethodName := ⟨"PicturePacker$Picture", "<init>", "(II)V"⟩
def wp_Pic_init (n : Nat → Nat) (x1 : Int32) (x2 : Int32) (post : (Nat → Nat) × (Nat → Nat) × Int32 × Int32 × Int32 × (Nat → Int32) → Prop) : Prop := ∀ z1 : Int32, z1 = (3 * (x1 + 1)) → (∀ z2 : Int32, z2 = (z1 * (x2 + 1)) → (¬ (z2 : Int32) < 0 ∧ (z2 : Int32).toNatClampNeg ≤ 7203 ∧ ∀ q3 : Nat, (post (fun k => if k = 8 then q3 else 0, fun k => if k = 8 then (z2 : Int32).toNatClampNeg else 0, x1, x2, z1, fun _ => 0))))
set_option maxHeartbeats 2000000 in
set_option maxRecDepth 20000 in
theorem c_Pic_init {l : Launch} {dC : Nat → ClassId} {dI : Nat → Nat → Nat} {cI : ClassId} {tb : Tbs} {a n : Nat → Nat} {x1 : Int32} {x2 : Int32} {post : (Nat → Nat) × (Nat → Nat) × Int32 × Int32 × Int32 × (Nat → Int32) → Prop} (h : wp_Pic_init n x1 x2 post) : CtV classes dC dI cI tb l y_Pic_init prog_5_method_1_code 3 ({ frames := 1, cells := 1, slots := 7203, locals := 21 }) [.ref (a 1), .int x1, .int x2] [(a 1, .inr (1, [.int 0, .int 0, .int 0, .null]))] ((Nat → Nat) × (Nat → Nat) × Int32 × Int32 × Int32 × (Nat → Int32)) (fun u => [(a 1, .inr (1, [.int u.2.2.1, .int u.2.2.2.1, .int u.2.2.2.2.1, .ref (u.1 8)])), (u.1 8, .inl (cI, u.2.1 8, .inl u.2.2.2.2.2))]) post := by
  refine startV (by decide) (Nat.le_of_ble_eq_true rfl) ?_
  intro p e s m below meth c ls E hr hlk hnm hl hw
  have hl : lv_has ls 3 [(0, .ref (a 1)), (1, .int x1), (2, .int x2)] := hl
  generalize va_A [(a 1, .inr (1, [.int 0, .int 0, .int 0, .null]))] s.heap.size = A at hw ⊢
  obtain ⟨hx, hb, hml, hown, hts⟩ := id E
  unfold wp_Pic_init at h
  refine lv_aload_n hx hb d_Pic_init_0 rfl (lv_at hl 0 rfl) ?_
  refine kobj E hl.1 tw65 tw49 tw50 (Nat.le_of_ble_eq_true rfl) (Nat.le_of_ble_eq_true rfl) d_Pic_init_1 ?_
  refine lv_aload_n hx hb d_Pic_init_4 rfl (lv_at hl 0 rfl) ?_
  refine lv_iload_n hx hb d_Pic_init_5 rfl (lv_at hl 1 rfl) ?_
  refine kputF (v := .int x1) (ty := .int) (T := F_Pic) (ws' := [(a 1, .inr (1, [.int x1, .int 0, .int 0, .null]))]) E hw in_Pic t_Pic t_Pic_ok n_Pic rfl 0 0 rfl (by decide) tw66 rfl hnm rfl rfl rfl rfl (Nat.le_of_ble_eq_true rfl) rfl d_Pic_init_6 (fun H locs hw => ?_)
  refine lv_aload_n hx hb d_Pic_init_9 rfl (lv_at hl 0 rfl) ?_
  refine lv_iload_n hx hb d_Pic_init_10 rfl (lv_at hl 2 rfl) ?_
  refine kputF (v := .int x2) (ty := .int) (T := F_Pic) (ws' := [(a 1, .inr (1, [.int x1, .int x2, .int 0, .null]))]) E hw in_Pic t_Pic t_Pic_ok n_Pic rfl 0 1 rfl (by decide) tw69 rfl hnm rfl rfl rfl rfl (Nat.le_of_ble_eq_true rfl) rfl d_Pic_init_11 (fun H locs hw => ?_)
  refine lv_aload_n hx hb d_Pic_init_14 rfl (lv_at hl 0 rfl) ?_
  refine lv_iconst (v := 3) hx hb d_Pic_init_15 (by decide) ?_
  refine lv_iload_n hx hb d_Pic_init_16 rfl (lv_at hl 1 rfl) ?_
  refine lv_iconst (v := 1) hx hb d_Pic_init_17 (by decide) ?_
  refine lv_iadd hx hb d_Pic_init_18 ?_
  refine lv_imul hx hb d_Pic_init_19 ?_
  refine lv_topi (fun z1 ez1 => ?_)
  have h := h z1 ez1
  refine kputF (v := .int z1) (ty := .int) (T := F_Pic) (ws' := [(a 1, .inr (1, [.int x1, .int x2, .int z1, .null]))]) E hw in_Pic t_Pic t_Pic_ok n_Pic rfl 0 2 rfl (by decide) tw72 rfl hnm rfl rfl rfl rfl (Nat.le_of_ble_eq_true rfl) rfl d_Pic_init_20 (fun H locs hw => ?_)
  refine lv_aload_n hx hb d_Pic_init_23 rfl (lv_at hl 0 rfl) ?_
  refine lv_aload_n hx hb d_Pic_init_24 rfl (lv_at hl 0 rfl) ?_
  refine kget (v := .int z1) (T := F_Pic) E hw in_Pic rfl 0 2 rfl (by decide) tw72 rfl d_Pic_init_25 ?_
  refine lv_iload_n hx hb d_Pic_init_28 rfl (lv_at hl 2 rfl) ?_
  refine lv_iconst (v := 1) hx hb d_Pic_init_29 (by decide) ?_
  refine lv_iadd hx hb d_Pic_init_30 ?_
  refine lv_imul hx hb d_Pic_init_31 ?_
  refine lv_topi (fun z2 ez2 => ?_)
  have h := h z2 ez2
  obtain ⟨b4, b5, h⟩ := h
  refine knewa 7203 E hw tw83 b4 b5 (by decide) (Nat.le_of_ble_eq_true rfl) (Nat.le_of_ble_eq_true rfl) d_Pic_init_32 (fun q3 H hw => ?_)
  have h := h q3
  have hw : Wl classes dC dI cI tb A s H _ [(a 1, .inr (1, [.int x1, .int x2, .int z1, .null])), (q3, .inl (cI, (z2 : Int32).toNatClampNeg, .inl (fun _ => 0)))] := hw
  refine kputF (v := .ref q3) (ty := .array .int) (T := F_Pic) (ws' := [(a 1, .inr (1, [.int x1, .int x2, .int z1, .ref q3])), (q3, .inl (cI, (z2 : Int32).toNatClampNeg, .inl (fun _ => 0)))]) E hw in_Pic t_Pic t_Pic_ok n_Pic rfl 0 3 rfl (by decide) tw73 rfl hnm rfl rfl rfl rfl (Nat.le_of_ble_eq_true rfl) rfl d_Pic_init_34 (fun H locs hw => ?_)
  exact retV (out := fun u => [(a 1, .inr (1, [.int u.2.2.1, .int u.2.2.2.1, .int u.2.2.2.2.1, .ref (u.1 8)])), (u.1 8, .inl (cI, u.2.1 8, .inl u.2.2.2.2.2))]) (u := (fun k => if k = 8 then q3 else 0, fun k => if k = 8 then (z2 : Int32).toNatClampNeg else 0, x1, x2, z1, fun _ => 0)) E hr hlk hw h d_Pic_init_37
-- PicturePacker$Output.<init>(I)V
theorem d_Out_init_0 : decode prog_3_method_1_code 0 = .ok (.aload_n 0, 1) := by decide +kernel
theorem d_Out_init_1 : decode prog_3_method_1_code 1 = .ok (.invokespecial 1, 3) := by decide +kernel
theorem d_Out_init_4 : decode prog_3_method_1_code 4 = .ok (.aload_n 0, 1) := by decide +kernel
theorem d_Out_init_5 : decode prog_3_method_1_code 5 = .ok (.iload_n 1, 1) := by decide +kernel
theorem d_Out_init_6 : decode prog_3_method_1_code 6 = .ok (.newarray .int, 2) := by decide +kernel
theorem d_Out_init_8 : decode prog_3_method_1_code 8 = .ok (.putfield 7, 3) := by decide +kernel
theorem d_Out_init_11 : decode prog_3_method_1_code 11 = .ok (.return_, 1) := by decide +kernel
abbrev y_Out_init : MethodName := ⟨"PicturePacker$Output", "<init>", "(I)V"⟩
def wp_Out_init (n : Nat → Nat) (x1 : Int32) (post : (Nat → Nat) × (Nat → Nat) × Int32 × Int32 × Int32 × (Nat → Int32) → Prop) : Prop := ¬ (x1 : Int32) < 0 ∧ (x1 : Int32).toNatClampNeg ≤ 7895 ∧ ∀ q1 : Nat, (post (fun k => if k = 11 then q1 else 0, fun k => if k = 11 then (x1 : Int32).toNatClampNeg else 0, 0, 0, 0, fun _ => 0))
set_option maxHeartbeats 2000000 in
set_option maxRecDepth 20000 in
theorem c_Out_init {l : Launch} {dC : Nat → ClassId} {dI : Nat → Nat → Nat} {cI : ClassId} {tb : Tbs} {a n : Nat → Nat} {x1 : Int32} {post : (Nat → Nat) × (Nat → Nat) × Int32 × Int32 × Int32 × (Nat → Int32) → Prop} (h : wp_Out_init n x1 post) : CtV classes dC dI cI tb l y_Out_init prog_3_method_1_code 2 ({ frames := 1, cells := 1, slots := 7895, locals := 21 }) [.ref (a 3), .int x1] [(a 3, .inr (3, [.null, .int 0, .int 0, .int 0]))] ((Nat → Nat) × (Nat → Nat) × Int32 × Int32 × Int32 × (Nat → Int32)) (fun u => [(a 3, .inr (3, [.ref (u.1 11), .int u.2.2.1, .int u.2.2.2.1, .int u.2.2.2.2.1])), (u.1 11, .inl (cI, u.2.1 11, .inl u.2.2.2.2.2))]) post := by
  refine startV (by decide) (Nat.le_of_ble_eq_true rfl) ?_
  intro p e s m below meth c ls E hr hlk hnm hl hw
  have hl : lv_has ls 2 [(0, .ref (a 3)), (1, .int x1)] := hl
  generalize va_A [(a 3, .inr (3, [.null, .int 0, .int 0, .int 0]))] s.heap.size = A at hw ⊢
  obtain ⟨hx, hb, hml, hown, hts⟩ := id E
  unfold wp_Out_init at h
  refine lv_aload_n hx hb d_Out_init_0 rfl (lv_at hl 0 rfl) ?_
  refine kobj E hl.1 tw116 tw49 tw50 (Nat.le_of_ble_eq_true rfl) (Nat.le_of_ble_eq_true rfl) d_Out_init_1 ?_
  refine lv_aload_n hx hb d_Out_init_4 rfl (lv_at hl 0 rfl) ?_
  refine lv_iload_n hx hb d_Out_init_5 rfl (lv_at hl 1 rfl) ?_
  obtain ⟨b2, b3, h⟩ := h
  refine knewa 7895 E hw tw83 b2 b3 (by decide) (Nat.le_of_ble_eq_true rfl) (Nat.le_of_ble_eq_true rfl) d_Out_init_6 (fun q1 H hw => ?_)
  have h := h q1
  have hw : Wl classes dC dI cI tb A s H _ [(a 3, .inr (3, [.null, .int 0, .int 0, .int 0])), (q1, .inl (cI, (x1 : Int32).toNatClampNeg, .inl (fun _ => 0)))] := hw
  refine kputF (v := .ref q1) (ty := .array .int) (T := F_Out) (ws' := [(a 3, .inr (3, [.ref q1, .int 0, .int 0, .int 0])), (q1, .inl (cI, (x1 : Int32).toNatClampNeg, .inl (fun _ => 0)))]) E hw in_Out t_Out t_Out_ok n_Out rfl 0 0 rfl (by decide) tw117 rfl hnm rfl rfl rfl rfl (Nat.le_of_ble_eq_true rfl) rfl d_Out_init_8 (fun H locs hw => ?_)
  exact retV (out := fun u => [(a 3, .inr (3, [.ref (u.1 11), .int u.2.2.1, .int u.2.2.2.1, .int u.2.2.2.2.1])), (u.1 11, .inl (cI, u.2.1 11, .inl u.2.2.2.2.2))]) (u := (fun k => if k = 11 then q1 else 0, fun k => if k = 11 then (x1 : Int32).toNatClampNeg else 0, 0, 0, 0, fun _ => 0)) E hr hlk hw h d_Out_init_11
-- PicturePacker$RunFinder.<init>([I)V
theorem d_Fin_init_0 : decode prog_7_method_1_code 0 = .ok (.aload_n 0, 1) := by decide +kernel
theorem d_Fin_init_1 : decode prog_7_method_1_code 1 = .ok (.invokespecial 3, 3) := by decide +kernel
theorem d_Fin_init_4 : decode prog_7_method_1_code 4 = .ok (.aload_n 0, 1) := by decide +kernel
theorem d_Fin_init_5 : decode prog_7_method_1_code 5 = .ok (.aload_n 1, 1) := by decide +kernel
theorem d_Fin_init_6 : decode prog_7_method_1_code 6 = .ok (.putfield 9, 3) := by decide +kernel
theorem d_Fin_init_9 : decode prog_7_method_1_code 9 = .ok (.aload_n 0, 1) := by decide +kernel
theorem d_Fin_init_10 : decode prog_7_method_1_code 10 = .ok (.sipush 1024, 3) := by decide +kernel
theorem d_Fin_init_13 : decode prog_7_method_1_code 13 = .ok (.newarray .int, 2) := by decide +kernel
theorem d_Fin_init_15 : decode prog_7_method_1_code 15 = .ok (.putfield 15, 3) := by decide +kernel
theorem d_Fin_init_18 : decode prog_7_method_1_code 18 = .ok (.aload_n 0, 1) := by decide +kernel
theorem d_Fin_init_19 : decode prog_7_method_1_code 19 = .ok (.aload_n 1, 1) := by decide +kernel
theorem d_Fin_init_20 : decode prog_7_method_1_code 20 = .ok (.arraylength, 1) := by decide +kernel
theorem d_Fin_init_21 : decode prog_7_method_1_code 21 = .ok (.newarray .int, 2) := by decide +kernel
theorem d_Fin_init_23 : decode prog_7_method_1_code 23 = .ok (.putfield 18, 3) := by decide +kernel
theorem d_Fin_init_26 : decode prog_7_method_1_code 26 = .ok (.return_, 1) := by decide +kernel
abbrev y_Fin_init : MethodName := ⟨"PicturePacker$RunFinder", "<init>", "([I)V"⟩
def wp_Fin_init (n : Nat → Nat) (post : (Nat → Nat) × (Nat → Nat) × Int32 × Int32 × Int32 × (Nat → Int32) × (Nat → Int32) → Prop) : Prop := ¬ (1024 : Int32) < 0 ∧ (1024 : Int32).toNatClampNeg ≤ 1024 ∧ ∀ q1 : Nat, (∀ z4 : Int32, z4 = (nI (n 9)) → (¬ (z4 : Int32) < 0 ∧ (z4 : Int32).toNatClampNeg ≤ 6960 ∧ ∀ q5 : Nat, (post (fun k => if k = 13 then q1 else if k = 14 then q5 else 0, fun k => if k = 13 then (1024 : Int32).toNatClampNeg else if k = 14 then (z4 : Int32).toNatClampNeg else 0, 0, 0, 0, fun _ => 0, fun _ => 0))))
set_option maxHeartbeats 2000000 in
set_option maxRecDepth 20000 in
theorem c_Fin_init {l : Launch} {dC : Nat → ClassId} {dI : Nat → Nat → Nat} {cI : ClassId} {tb : Tbs} {a n : Nat → Nat} {rb : Nat → Int32} {post : (Nat → Nat) × (Nat → Nat) × Int32 × Int32 × Int32 × (Nat → Int32) × (Nat → Int32) → Prop} (h : wp_Fin_init n post) : CtV classes dC dI cI tb l y_Fin_init prog_7_method_1_code 2 ({ frames := 1, cells := 2, slots := 7984, locals := 21 }) [.ref (a 6), .ref (a 9)] [(a 6, .inr (6, [.null, .null, .null, .int 0, .int 0, .int 0])), e_ar a n cI 9 rb] ((Nat → Nat) × (Nat → Nat) × Int32 × Int32 × Int32 × (Nat → Int32) × (Nat → Int32)) (fun u => [(a 6, .inr (6, [.ref (a 9), .ref (u.1 13), .ref (u.1 14), .int u.2.2.1, .int u.2.2.2.1, .int u.2.2.2.2.1])), e_ar a n cI 9 rb, (u.1 13, .inl (cI, u.2.1 13, .inl u.2.2.2.2.2.1)), (u.1 14, .inl (cI, u.2.1 14, .inl u.2.2.2.2.2.2))]) post := by
  refine startV (by decide) (Nat.le_of_ble_eq_true rfl) ?_
  intro p e s m below meth c ls E hr hlk hnm hl hw
  have hl : lv_has ls 2 [(0, .ref (a 6)), (1, .ref (a 9))] := hl
  generalize va_A [(a 6, .inr (6, [.null, .null, .null, .int 0, .int 0, .int 0])), e_ar a n cI 9 rb] s.heap.size = A at hw ⊢
  obtain ⟨hx, hb, hml, hown, hts⟩ := id E
  unfold wp_Fin_init at h
  refine lv_aload_n hx hb d_Fin_init_0 rfl (lv_at hl 0 rfl) ?_
  refine kobj E hl.1 tw165 tw49 tw50 (Nat.le_of_ble_eq_true rfl) (Nat.le_of_ble_eq_true rfl) d_Fin_init_1 ?_
  refine lv_aload_n hx hb d_Fin_init_4 rfl (lv_at hl 0 rfl) ?_
  refine lv_aload_n hx hb d_Fin_init_5 rfl (lv_at hl 1 rfl) ?_
  refine kputF (v := .ref (a 9)) (ty := .array .int) (T := F_Fin) (ws' := [(a 6, .inr (6, [.ref (a 9), .null, .null, .int 0, .int 0, .int 0])), e_ar a n cI 9 rb]) E hw in_Fin t_Fin t_Fin_ok n_Fin rfl 0 0 rfl (by decide) tw166 rfl hnm rfl rfl rfl rfl (Nat.le_of_ble_eq_true rfl) rfl d_Fin_init_6 (fun H locs hw => ?_)
  refine lv_aload_n hx hb d_Fin_init_9 rfl (lv_at hl 0 rfl) ?_
  refine lv_sipush (v := 1024) hx hb d_Fin_init_10 (by decide) ?_
  obtain ⟨b2, b3, h⟩ := h
  refine knewa 1024 E hw tw83 b2 b3 (by decide) (Nat.le_of_ble_eq_true rfl) (Nat.le_of_ble_eq_true rfl) d_Fin_init_13 (fun q1 H hw => ?_)
  have h := h q1
  have hw : Wl classes dC dI cI tb A s H _ [(a 6, .inr (6, [.ref (a 9), .null, .null, .int 0, .int 0, .int 0])), e_ar a n cI 9 rb, (q1, .inl (cI, (1024 : Int32).toNatClampNeg, .inl (fun _ => 0)))] := hw
  refine kputF (v := .ref q1) (ty := .array .int) (T := F_Fin) (ws' := [(a 6, .inr (6, [.ref (a 9), .ref q1, .null, .int 0, .int 0, .int 0])), e_ar a n cI 9 rb, (q1, .inl (cI, (1024 : Int32).toNatClampNeg, .inl (fun _ => 0)))]) E hw in_Fin t_Fin t_Fin_ok n_Fin rfl 0 1 rfl (by decide) tw167 rfl hnm rfl rfl rfl rfl (Nat.le_of_ble_eq_true rfl) rfl d_Fin_init_15 (fun H locs hw => ?_)
  refine lv_aload_n hx hb d_Fin_init_18 rfl (lv_at hl 0 rfl) ?_
  refine lv_aload_n hx hb d_Fin_init_19 rfl (lv_at hl 1 rfl) ?_
  refine kalen E hw 1 rfl d_Fin_init_20 ?_
  refine lv_topi (fun z4 ez4 => ?_)
  have h := h z4 ez4
  obtain ⟨b6, b7, h⟩ := h
  refine knewa 6960 E hw tw83 b6 b7 (by decide) (Nat.le_of_ble_eq_true rfl) (Nat.le_of_ble_eq_true rfl) d_Fin_init_21 (fun q5 H hw => ?_)
  have h := h q5
  have hw : Wl classes dC dI cI tb A s H _ [(a 6, .inr (6, [.ref (a 9), .ref q1, .null, .int 0, .int 0, .int 0])), e_ar a n cI 9 rb, (q1, .inl (cI, (1024 : Int32).toNatClampNeg, .inl (fun _ => 0))), (q5, .inl (cI, (z4 : Int32).toNatClampNeg, .inl (fun _ => 0)))] := hw
  refine kputF (v := .ref q5) (ty := .array .int) (T := F_Fin) (ws' := [(a 6, .inr (6, [.ref (a 9), .ref q1, .ref q5, .int 0, .int 0, .int 0])), e_ar a n cI 9 rb, (q1, .inl (cI, (1024 : Int32).toNatClampNeg, .inl (fun _ => 0))), (q5, .inl (cI, (z4 : Int32).toNatClampNeg, .inl (fun _ => 0)))]) E hw in_Fin t_Fin t_Fin_ok n_Fin rfl 0 2 rfl (by decide) tw168 rfl hnm rfl rfl rfl rfl (Nat.le_of_ble_eq_true rfl) rfl d_Fin_init_23 (fun H locs hw => ?_)
  exact retV (out := fun u => [(a 6, .inr (6, [.ref (a 9), .ref (u.1 13), .ref (u.1 14), .int u.2.2.1, .int u.2.2.2.1, .int u.2.2.2.2.1])), e_ar a n cI 9 rb, (u.1 13, .inl (cI, u.2.1 13, .inl u.2.2.2.2.2.1)), (u.1 14, .inl (cI, u.2.1 14, .inl u.2.2.2.2.2.2))]) (u := (fun k => if k = 13 then q1 else if k = 14 then q5 else 0, fun k => if k = 13 then (1024 : Int32).toNatClampNeg else if k = 14 then (z4 : Int32).toNatClampNeg else 0, 0, 0, 0, fun _ => 0, fun _ => 0)) E hr hlk hw h d_Fin_init_26
-- PicturePacker$Rows.<init>(LPicturePacker$Picture;)V
theorem d_Rows_init_0 : decode prog_6_method_1_code 0 = .ok (.aload_n 0, 1) := by decide +kernel
theorem d_Rows_init_1 : decode prog_6_method_1_code 1 = .ok (.invokespecial 3, 3) := by decide +kernel
theorem d_Rows_init_4 : decode prog_6_method_1_code 4 = .ok (.aload_n 0, 1) := by decide +kernel
theorem d_Rows_init_5 : decode prog_6_method_1_code 5 = .ok (.aload_n 1, 1) := by decide +kernel
theorem d_Rows_init_6 : decode prog_6_method_1_code 6 = .ok (.putfield 9, 3) := by decide +kernel
theorem d_Rows_init_9 : decode prog_6_method_1_code 9 = .ok (.aload_n 0, 1) := by decide +kernel
theorem d_Rows_init_10 : decode prog_6_method_1_code 10 = .ok (.iconst 3, 1) := by decide +kernel
theorem d_Rows_init_11 : decode prog_6_method_1_code 11 = .ok (.aload_n 1, 1) := by decide +kernel
theorem d_Rows_init_12 : decode prog_6_method_1_code 12 = .ok (.getfield 15, 3) := by decide +kernel
theorem d_Rows_init_15 : decode prog_6_method_1_code 15 = .ok (.imul, 1) := by decide +kernel
theorem d_Rows_init_16 : decode prog_6_method_1_code 16 = .ok (.putfield 21, 3) := by decide +kernel
theorem d_Rows_init_19 : decode prog_6_method_1_code 19 = .ok (.aload_n 0, 1) := by decide +kernel
theorem d_Rows_init_20 : decode prog_6_method_1_code 20 = .ok (.aload_n 0, 1) := by decide +kernel
theorem d_Rows_init_21 : decode prog_6_method_1_code 21 = .ok (.getfield 21, 3) := by decide +kernel
theorem d_Rows_init_24 : decode prog_6_method_1_code 24 = .ok (.iconst 1, 1) := by decide +kernel
theorem d_Rows_init_25 : decode prog_6_method_1_code 25 = .ok (.iadd, 1) := by decide +kernel
theorem d_Rows_init_26 : decode prog_6_method_1_code 26 = .ok (.aload_n 1, 1) := by decide +kernel
theorem d_Rows_init_27 : decode prog_6_method_1_code 27 = .ok (.getfield 24, 3) := by decide +kernel
theorem d_Rows_init_30 : decode prog_6_method_1_code 30 = .ok (.imul, 1) := by decide +kernel
theorem d_Rows_init_31 : decode prog_6_method_1_code 31 = .ok (.newarray .int, 2) := by decide +kernel
theorem d_Rows_init_33 : decode prog_6_method_1_code 33 = .ok (.putfield 27, 3) := by decide +kernel
theorem d_Rows_init_36 : decode prog_6_method_1_code 36 = .ok (.aload_n 0, 1) := by decide +kernel
theorem d_Rows_init_37 : decode prog_6_method_1_code 37 = .ok (.aload_n 1, 1) := by decide +kernel
theorem d_Rows_init_38 : decode prog_6_method_1_code 38 = .ok (.getfield 24, 3) := by decide +kernel
theorem d_Rows_init_41 : decode prog_6_method_1_code 41 = .ok (.newarray .int, 2) := by decide +kernel
theorem d_Rows_init_43 : decode prog_6_method_1_code 43 = .ok (.putfield 31, 3) := by decide +kernel
theorem d_Rows_init_46 : decode prog_6_method_1_code 46 = .ok (.aload_n 0, 1) := by decide +kernel
theorem d_Rows_init_47 : decode prog_6_method_1_code 47 = .ok (.getfield 31, 3) := by decide +kernel
theorem d_Rows_init_50 : decode prog_6_method_1_code 50 = .ok (.iconst (-1), 1) := by decide +kernel
theorem d_Rows_init_51 : decode prog_6_method_1_code 51 = .ok (.invokestatic 34, 3) := by decide +kernel
theorem d_Rows_init_54 : decode prog_6_method_1_code 54 = .ok (.return_, 1) := by decide +kernel
abbrev y_Rows_init : MethodName := ⟨"PicturePacker$Rows", "<init>", "(LPicturePacker$Picture;)V"⟩
def wp_Rows_init (n : Nat → Nat) (Pic_width : Int32) (Pic_height : Int32) (post : (Nat → Nat) × (Nat → Nat) × Int32 × (Nat → Int32) × (Nat → Int32) → Prop) : Prop := ∀ z1 : Int32, z1 = (3 * Pic_width) → (∀ z2 : Int32, z2 = ((z1 + 1) * Pic_height) → (¬ (z2 : Int32) < 0 ∧ (z2 : Int32).toNatClampNeg ≤ 6960 ∧ ∀ q3 : Nat, (¬ (Pic_height : Int32) < 0 ∧ (Pic_height : Int32).toNatClampNeg ≤ 48 ∧ ∀ q6 : Nat, (wp_Arr_fill (fun _ => (Pic_height : Int32).toNatClampNeg) (fun _ => 0) ((-1)) (fun u9 => post (fun k => if k = 9 then q3 else if k = 10 then q6 else 0, fun k => if k = 9 then (z2 : Int32).toNatClampNeg else if k = 10 then (Pic_height : Int32).toNatClampNeg else 0, z1, fun _ => 0, u9))))))
set_option maxHeartbeats 2000000 in
set_option maxRecDepth 20000 in
theorem c_Rows_init {l : Launch} {dC : Nat → ClassId} {dI : Nat → Nat → Nat} {cI : ClassId} {tb : Tbs} {a n : Nat → Nat} {Pic_width : Int32} {Pic_height : Int32} {Pic_stride : Int32} {post : (Nat → Nat) × (Nat → Nat) × Int32 × (Nat → Int32) × (Nat → Int32) → Prop} (h : wp_Rows_init n Pic_width Pic_height post) : CtV classes dC dI cI tb l y_Rows_init prog_6_method_1_code 2 ({ frames := 1, cells := 2, slots := 7008, locals := 23 }) [.ref (a 2), .ref (a 1)] [(a 2, .inr (2, [.null, .null, .null, .int 0])), e_Pic a Pic_width Pic_height Pic_stride] ((Nat → Nat) × (Nat → Nat) × Int32 × (Nat → Int32) × (Nat → Int32)) (fun u => [(a 2, .inr (2, [.ref (u.1 9), .ref (u.1 10), .ref (a 1), .int u.2.2.1])), e_Pic a Pic_width Pic_height Pic_stride, (u.1 9, .inl (cI, u.2.1 9, .inl u.2.2.2.1)), (u.1 10, .inl (cI, u.2.1 10, .inl u.2.2.2.2))]) post := by
  refine startV (by decide) (Nat.le_of_ble_eq_true rfl) ?_
  intro p e s m below meth c ls E hr hlk hnm hl hw
  have hl : lv_has ls 2 [(0, .ref (a 2)), (1, .ref (a 1))] := hl
  generalize va_A [(a 2, .inr (2, [.null, .null, .null, .int 0])), e_Pic a Pic_width Pic_height Pic_stride] s.heap.size = A at hw ⊢
  obtain ⟨hx, hb, hml, hown, hts⟩ := id E
  unfold wp_Rows_init at h
  refine lv_aload_n hx hb d_Rows_init_0 rfl (lv_at hl 0 rfl) ?_
  refine kobj E hl.1 tw89 tw49 tw50 (Nat.le_of_ble_eq_true rfl) (Nat.le_of_ble_eq_true rfl) d_Rows_init_1 ?_
  refine lv_aload_n hx hb d_Rows_init_4 rfl (lv_at hl 0 rfl) ?_
  refine lv_aload_n hx hb d_Rows_init_5 rfl (lv_at hl 1 rfl) ?_
  refine kputF (v := .ref (a 1)) (ty := .object "PicturePacker$Picture") (T := F_Rows) (ws' := [(a 2, .inr (2, [.null, .null, .ref (a 1), .int 0])), e_Pic a Pic_width Pic_height Pic_stride]) E hw in_Rows t_Rows t_Rows_ok n_Rows rfl 0 2 rfl (by decide) tw97 rfl hnm rfl rfl rfl rfl (Nat.le_of_ble_eq_true rfl) rfl d_Rows_init_6 (fun H locs hw => ?_)
  refine lv_aload_n hx hb d_Rows_init_9 rfl (lv_at hl 0 rfl) ?_
  refine lv_iconst (v := 3) hx hb d_Rows_init_10 (by decide) ?_
  refine lv_aload_n hx hb d_Rows_init_11 rfl (lv_at hl 1 rfl) ?_
  refine kget (v := .int Pic_width) (T := F_Pic) E hw in_Pic rfl 1 0 rfl (by decide) tw67 rfl d_Rows_init_12 ?_
  refine lv_imul hx hb d_Rows_init_15 ?_
  refine lv_topi (fun z1 ez1 => ?_)
  have h := h z1 ez1
  refine kputF (v := .int z1) (ty := .int) (T := F_Rows) (ws' := [(a 2, .inr (2, [.null, .null, .ref (a 1), .int z1])), e_Pic a Pic_width Pic_height Pic_stride]) E hw in_Rows t_Rows t_Rows_ok n_Rows rfl 0 3 rfl (by decide) tw98 rfl hnm rfl rfl rfl rfl (Nat.le_of_ble_eq_true rfl) rfl d_Rows_init_16 (fun H locs hw => ?_)
  refine lv_aload_n hx hb d_Rows_init_19 rfl (lv_at hl 0 rfl) ?_
  refine lv_aload_n hx hb d_Rows_init_20 rfl (lv_at hl 0 rfl) ?_
  refine kget (v := .int z1) (T := F_Rows) E hw in_Rows rfl 0 3 rfl (by decide) tw98 rfl d_Rows_init_21 ?_
  refine lv_iconst (v := 1) hx hb d_Rows_init_24 (by decide) ?_
  refine lv_iadd hx hb d_Rows_init_25 ?_
  refine lv_aload_n hx hb d_Rows_init_26 rfl (lv_at hl 1 rfl) ?_
  refine kget (v := .int Pic_height) (T := F_Pic) E hw in_Pic rfl 1 1 rfl (by decide) tw70 rfl d_Rows_init_27 ?_
  refine lv_imul hx hb d_Rows_init_30 ?_
  refine lv_topi (fun z2 ez2 => ?_)
  have h := h z2 ez2
  obtain ⟨b4, b5, h⟩ := h
  refine knewa 6960 E hw tw83 b4 b5 (by decide) (Nat.le_of_ble_eq_true rfl) (Nat.le_of_ble_eq_true rfl) d_Rows_init_31 (fun q3 H hw => ?_)
  have h := h q3
  have hw : Wl classes dC dI cI tb A s H _ [(a 2, .inr (2, [.null, .null, .ref (a 1), .int z1])), e_Pic a Pic_width Pic_height Pic_stride, (q3, .inl (cI, (z2 : Int32).toNatClampNeg, .inl (fun _ => 0)))] := hw
  refine kputF (v := .ref q3) (ty := .array .int) (T := F_Rows) (ws' := [(a 2, .inr (2, [.ref q3, .null, .ref (a 1), .int z1])), e_Pic a Pic_width Pic_height Pic_stride, (q3, .inl (cI, (z2 : Int32).toNatClampNeg, .inl (fun _ => 0)))]) E hw in_Rows t_Rows t_Rows_ok n_Rows rfl 0 0 rfl (by decide) tw93 rfl hnm rfl rfl rfl rfl (Nat.le_of_ble_eq_true rfl) rfl d_Rows_init_33 (fun H locs hw => ?_)
  refine lv_aload_n hx hb d_Rows_init_36 rfl (lv_at hl 0 rfl) ?_
  refine lv_aload_n hx hb d_Rows_init_37 rfl (lv_at hl 1 rfl) ?_
  refine kget (v := .int Pic_height) (T := F_Pic) E hw in_Pic rfl 1 1 rfl (by decide) tw70 rfl d_Rows_init_38 ?_
  obtain ⟨b7, b8, h⟩ := h
  refine knewa 48 E hw tw83 b7 b8 (by decide) (Nat.le_of_ble_eq_true rfl) (Nat.le_of_ble_eq_true rfl) d_Rows_init_41 (fun q6 H hw => ?_)
  have h := h q6
  have hw : Wl classes dC dI cI tb A s H _ [(a 2, .inr (2, [.ref q3, .null, .ref (a 1), .int z1])), e_Pic a Pic_width Pic_height Pic_stride, (q3, .inl (cI, (z2 : Int32).toNatClampNeg, .inl (fun _ => 0))), (q6, .inl (cI, (Pic_height : Int32).toNatClampNeg, .inl (fun _ => 0)))] := hw
  refine kputF (v := .ref q6) (ty := .array .int) (T := F_Rows) (ws' := [(a 2, .inr (2, [.ref q3, .ref q6, .ref (a 1), .int z1])), e_Pic a Pic_width Pic_height Pic_stride, (q3, .inl (cI, (z2 : Int32).toNatClampNeg, .inl (fun _ => 0))), (q6, .inl (cI, (Pic_height : Int32).toNatClampNeg, .inl (fun _ => 0)))]) E hw in_Rows t_Rows t_Rows_ok n_Rows rfl 0 1 rfl (by decide) tw95 rfl hnm rfl rfl rfl rfl (Nat.le_of_ble_eq_true rfl) rfl d_Rows_init_43 (fun H locs hw => ?_)
  refine lv_aload_n hx hb d_Rows_init_46 rfl (lv_at hl 0 rfl) ?_
  refine kget (v := .ref q6) (T := F_Rows) E hw in_Rows rfl 0 1 rfl (by decide) tw95 rfl d_Rows_init_47 ?_
  refine lv_iconst (v := (-1)) hx hb d_Rows_init_50 (by decide) ?_
  refine kSv (y := y_Arr_fill) (ws' := fun u9 => [(a 2, .inr (2, [.ref q3, .ref q6, .ref (a 1), .int z1])), e_Pic a Pic_width Pic_height Pic_stride, (q3, .inl (cI, (z2 : Int32).toNatClampNeg, .inl (fun _ => 0))), (q6, .inl (cI, (Pic_height : Int32).toNatClampNeg, .inl u9))]) (wr := [(a 2, .inr (2, [.ref q3, .ref q6, .ref (a 1), .int z1])), e_Pic a Pic_width Pic_height Pic_stride, (q3, .inl (cI, (z2 : Int32).toNatClampNeg, .inl (fun _ => 0)))]) (As := [.ref q6, .int ((-1))]) (rest := []) E hw (c_Arr_fill (l := l) (dC := dC) (dI := dI) (cI := cI) (tb := tb) (a := fun _ => q6) (n := fun _ => (Pic_height : Int32).toNatClampNeg) (ga := fun _ => 0) (x1 := (-1)) h) tw90 tw91 tw37 tw92 2 (by decide) ⟨Nat.le_of_ble_eq_true rfl, Nat.le_of_ble_eq_true rfl⟩ ⟨Nat.le_of_ble_eq_true rfl, Nat.le_of_ble_eq_true rfl⟩ ⟨rfl, rfl⟩ [3] [0, 1, 2] [0, 1, 2, 3] rfl rfl rfl rfl (by decide) rfl (fun _ => rfl) hl.1 rfl rfl (Nat.le_of_ble_eq_true rfl) d_Rows_init_51 (fun u9 H locs h hw => ?_)
  exact retV (out := fun u => [(a 2, .inr (2, [.ref (u.1 9), .ref (u.1 10), .ref (a 1), .int u.2.2.1])), e_Pic a Pic_width Pic_height Pic_stride, (u.1 9, .inl (cI, u.2.1 9, .inl u.2.2.2.1)), (u.1 10, .inl (cI, u.2.1 10, .inl u.2.2.2.2))]) (u := (fun k => if k = 9 then q3 else if k = 10 then q6 else 0, fun k => if k = 9 then (z2 : Int32).toNatClampNeg else if k = 10 then (Pic_height : Int32).toNatClampNeg else 0, z1, fun _ => 0, u9)) E hr hlk hw h d_Rows_init_54
-- PicturePacker$Packer.<init>([ILPicturePacker$Output;)V
theorem d_Pak_init_0 : decode prog_4_method_1_code 0 = .ok (.aload_n 0, 1) := by decide +kernel
theorem d_Pak_init_1 : decode prog_4_method_1_code 1 = .ok (.invokespecial 1, 3) := by decide +kernel
theorem d_Pak_init_4 : decode prog_4_method_1_code 4 = .ok (.aload_n 0, 1) := by decide +kernel
theorem d_Pak_init_5 : decode prog_4_method_1_code 5 = .ok (.aload_n 1, 1) := by decide +kernel
theorem d_Pak_init_6 : decode prog_4_method_1_code 6 = .ok (.putfield 7, 3) := by decide +kernel
theorem d_Pak_init_9 : decode prog_4_method_1_code 9 = .ok (.aload_n 0, 1) := by decide +kernel
theorem d_Pak_init_10 : decode prog_4_method_1_code 10 = .ok (.aload_n 2, 1) := by decide +kernel
theorem d_Pak_init_11 : decode prog_4_method_1_code 11 = .ok (.putfield 13, 3) := by decide +kernel
theorem d_Pak_init_14 : decode prog_4_method_1_code 14 = .ok (.aload_n 0, 1) := by decide +kernel
theorem d_Pak_init_15 : decode prog_4_method_1_code 15 = .ok (.new 17, 3) := by decide +kernel
theorem d_Pak_init_18 : decode prog_4_method_1_code 18 = .ok (.dup, 1) := by decide +kernel
theorem d_Pak_init_19 : decode prog_4_method_1_code 19 = .ok (.aload_n 1, 1) := by decide +kernel
theorem d_Pak_init_20 : decode prog_4_method_1_code 20 = .ok (.invokespecial 19, 3) := by decide +kernel
theorem d_Pak_init_23 : decode prog_4_method_1_code 23 = .ok (.putfield 22, 3) := by decide +kernel
theorem d_Pak_init_26 : decode prog_4_method_1_code 26 = .ok (.return_, 1) := by decide +kernel
abbrev y_Pak_init : MethodName := ⟨"PicturePacker$Packer", "<init>", "([ILPicturePacker$Output;)V"⟩
def wp_Pak_init (n : Nat → Nat) (post : (Nat → Nat) × (Nat → Nat) × Int32 × Int32 × Int32 × Int32 × Int32 × Int32 × (Nat → Int32) × (Nat → Int32) → Prop) : Prop := ∀ q1 : Nat, (wp_Fin_init (fun k => if k = 9 then n 9 else 0) (fun u2 => post (fun k => if k = 6 then q1 else if k = 13 then u2.1 13 else if k = 14 then u2.1 14 else 0, fun k => if k = 13 then u2.2.1 13 else if k = 14 then u2.2.1 14 else 0, 0, 0, 0, u2.2.2.1, u2.2.2.2.1, u2.2.2.2.2.1, u2.2.2.2.2.2.1, u2.2.2.2.2.2.2)))
set_option maxHeartbeats 2000000 in
set_option maxRecDepth 20000 in
theorem c_Pak_init {l : Launch} {dC : Nat → ClassId} {dI : Nat → Nat → Nat} {cI : ClassId} {tb : Tbs} {a n : Nat → Nat} {rb : Nat → Int32} {post : (Nat → Nat) × (Nat → Nat) × Int32 × Int32 × Int32 × Int32 × Int32 × Int32 × (Nat → Int32) × (Nat → Int32) → Prop} (h : wp_Pak_init n post) : CtV classes dC dI cI tb l y_Pak_init prog_4_method_1_code 3 ({ frames := 2, cells := 3, slots := 7990, locals := 42 }) [.ref (a 5), .ref (a 9), .ref (a 3)] [(a 5, .inr (5, [.null, .null, .null, .int 0, .int 0, .int 0])), e_ar a n cI 9 rb] ((Nat → Nat) × (Nat → Nat) × Int32 × Int32 × Int32 × Int32 × Int32 × Int32 × (Nat → Int32) × (Nat → Int32)) (fun u => [(a 5, .inr (5, [.ref (a 9), .ref (a 3), .ref (u.1 6), .int u.2.2.1, .int u.2.2.2.1, .int u.2.2.2.2.1])), e_ar a n cI 9 rb, (u.1 6, .inr (6, [.ref (a 9), .ref (u.1 13), .ref (u.1 14), .int u.2.2.2.2.2.1, .int u.2.2.2.2.2.2.1, .int u.2.2.2.2.2.2.2.1])), (u.1 13, .inl (cI, u.2.1 13, .inl u.2.2.2.2.2.2.2.2.1)), (u.1 14, .inl (cI, u.2.1 14, .inl u.2.2.2.2.2.2.2.2.2))]) post := by
  refine startV (by decide) (Nat.le_of_ble_eq_true rfl) ?_
  intro p e s m below meth c ls E hr hlk hnm hl hw
  have hl : lv_has ls 3 [(0, .ref (a 5)), (1, .ref (a 9)), (2, .ref (a 3))] := hl
  generalize va_A [(a 5, .inr (5, [.null, .null, .null, .int 0, .int 0, .int 0])), e_ar a n cI 9 rb] s.heap.size = A at hw ⊢
  obtain ⟨hx, hb, hml, hown, hts⟩ := id E
  unfold wp_Pak_init at h
  refine lv_aload_n hx hb d_Pak_init_0 rfl (lv_at hl 0 rfl) ?_
  refine kobj E hl.1 tw159 tw49 tw50 (Nat.le_of_ble_eq_true rfl) (Nat.le_of_ble_eq_true rfl) d_Pak_init_1 ?_
  refine lv_aload_n hx hb d_Pak_init_4 rfl (lv_at hl 0 rfl) ?_
  refine lv_aload_n hx hb d_Pak_init_5 rfl (lv_at hl 1 rfl) ?_
  refine kputF (v := .ref (a 9)) (ty := .array .int) (T := F_Pak) (ws' := [(a 5, .inr (5, [.ref (a 9), .null, .null, .int 0, .int 0, .int 0])), e_ar a n cI 9 rb]) E hw in_Pak t_Pak t_Pak_ok n_Pak rfl 0 0 rfl (by decide) tw187 rfl hnm rfl rfl rfl rfl (Nat.le_of_ble_eq_true rfl) rfl d_Pak_init_6 (fun H locs hw => ?_)
  refine lv_aload_n hx hb d_Pak_init_9 rfl (lv_at hl 0 rfl) ?_
  refine lv_aload_n hx hb d_Pak_init_10 rfl (lv_at hl 2 rfl) ?_
  refine kputF (v := .ref (a 3)) (ty := .object "PicturePacker$Output") (T := F_Pak) (ws' := [(a 5, .inr (5, [.ref (a 9), .ref (a 3), .null, .int 0, .int 0, .int 0])), e_ar a n cI 9 rb]) E hw in_Pak t_Pak t_Pak_ok n_Pak rfl 0 1 rfl (by decide) tw188 rfl hnm rfl rfl rfl rfl (Nat.le_of_ble_eq_true rfl) rfl d_Pak_init_11 (fun H locs hw => ?_)
  refine lv_aload_n hx hb d_Pak_init_14 rfl (lv_at hl 0 rfl) ?_
  refine knew (ci := 6) (fs := [.null, .null, .null, .int 0, .int 0, .int 0]) (C := "PicturePacker$RunFinder") (T := F_Fin) (N := 6) E hw in_Fin t_Fin t_Fin_ok rfl tw160 tw161 tw41 (by intro j hj; rcases (show j = 0 ∨ j = 1 ∨ j = 2 ∨ j = 3 ∨ j = 4 ∨ j = 5 by omega) with rfl | rfl | rfl | rfl | rfl | rfl <;> rfl) (Nat.le_of_ble_eq_true rfl) (Nat.le_of_ble_eq_true rfl) d_Pak_init_15 (fun q1 H hw => ?_)
  have h := h q1
  have hw : Wl classes dC dI cI tb A s H _ [(a 5, .inr (5, [.ref (a 9), .ref (a 3), .null, .int 0, .int 0, .int 0])), e_ar a n cI 9 rb, (q1, .inr (6, [.null, .null, .null, .int 0, .int 0, .int 0]))] := hw
  refine lv_dup hx hb d_Pak_init_18 rfl ?_
  refine lv_aload_n hx hb d_Pak_init_19 rfl (lv_at hl 1 rfl) ?_
  refine kIv (y := y_Fin_init) (ws' := fun u2 => [(a 5, .inr (5, [.ref (a 9), .ref (a 3), .null, .int 0, .int 0, .int 0])), e_ar a n cI 9 rb, (q1, .inr (6, [.ref (a 9), .ref (u2.1 13), .ref (u2.1 14), .int u2.2.2.1, .int u2.2.2.2.1, .int u2.2.2.2.2.1])), (u2.1 13, .inl (cI, u2.2.1 13, .inl u2.2.2.2.2.2.1)), (u2.1 14, .inl (cI, u2.2.1 14, .inl u2.2.2.2.2.2.2))]) (wr := [(a 5, .inr (5, [.ref (a 9), .ref (a 3), .null, .int 0, .int 0, .int 0]))]) (As := [.ref (a 9)]) (rest := [.ref q1, .ref (a 5)]) E hw (c_Fin_init (l := l) (dC := dC) (dI := dI) (cI := cI) (tb := tb) (a := fun k => if k = 6 then q1 else if k = 9 then a 9 else 0) (n := fun k => if k = 9 then n 9 else 0) (rb := rb)  h) tw162 tw163 tw41 tw164 rfl 1 (by decide) ⟨Nat.le_of_ble_eq_true rfl, Nat.le_of_ble_eq_true rfl⟩ ⟨Nat.le_of_ble_eq_true rfl, Nat.le_of_ble_eq_true rfl⟩ ⟨rfl, rfl⟩ [2, 1] [0] [0, 2, 1, 3, 4] rfl rfl rfl rfl (by decide) rfl (fun _ => rfl) hl.1 rfl rfl (Nat.le_of_ble_eq_true rfl) d_Pak_init_20 (fun u2 H locs h hw => ?_)
  refine kputF (v := .ref q1) (ty := .object "PicturePacker$RunFinder") (T := F_Pak) (ws' := [(a 5, .inr (5, [.ref (a 9), .ref (a 3), .ref q1, .int 0, .int 0, .int 0])), e_ar a n cI 9 rb, (q1, .inr (6, [.ref (a 9), .ref (u2.1 13), .ref (u2.1 14), .int u2.2.2.1, .int u2.2.2.2.1, .int u2.2.2.2.2.1])), (u2.1 13, .inl (cI, u2.2.1 13, .inl u2.2.2.2.2.2.1)), (u2.1 14, .inl (cI, u2.2.1 14, .inl u2.2.2.2.2.2.2))]) E hw in_Pak t_Pak t_Pak_ok n_Pak rfl 0 2 rfl (by decide) tw189 rfl hnm rfl rfl rfl rfl (Nat.le_of_ble_eq_true rfl) rfl d_Pak_init_23 (fun H locs hw => ?_)
  exact retV (out := fun u => [(a 5, .inr (5, [.ref (a 9), .ref (a 3), .ref (u.1 6), .int u.2.2.1, .int u.2.2.2.1, .int u.2.2.2.2.1])), e_ar a n cI 9 rb, (u.1 6, .inr (6, [.ref (a 9), .ref (u.1 13), .ref (u.1 14), .int u.2.2.2.2.2.1, .int u.2.2.2.2.2.2.1, .int u.2.2.2.2.2.2.2.1])), (u.1 13, .inl (cI, u.2.1 13, .inl u.2.2.2.2.2.2.2.2.1)), (u.1 14, .inl (cI, u.2.1 14, .inl u.2.2.2.2.2.2.2.2.2))]) (u := (fun k => if k = 6 then q1 else if k = 13 then u2.1 13 else if k = 14 then u2.1 14 else 0, fun k => if k = 13 then u2.2.1 13 else if k = 14 then u2.2.1 14 else 0, 0, 0, 0, u2.2.2.1, u2.2.2.2.1, u2.2.2.2.2.1, u2.2.2.2.2.2.1, u2.2.2.2.2.2.2)) E hr hlk hw h d_Pak_init_26
-- PicturePackerModel.<init>(II)V
theorem d_Mod_init_0 : decode prog_9_method_1_code 0 = .ok (.aload_n 0, 1) := by decide +kernel
theorem d_Mod_init_1 : decode prog_9_method_1_code 1 = .ok (.invokespecial 1, 3) := by decide +kernel
theorem d_Mod_init_4 : decode prog_9_method_1_code 4 = .ok (.aload_n 0, 1) := by decide +kernel
theorem d_Mod_init_5 : decode prog_9_method_1_code 5 = .ok (.sipush 2304, 3) := by decide +kernel
theorem d_Mod_init_8 : decode prog_9_method_1_code 8 = .ok (.newarray .int, 2) := by decide +kernel
theorem d_Mod_init_10 : decode prog_9_method_1_code 10 = .ok (.putfield 7, 3) := by decide +kernel
theorem d_Mod_init_13 : decode prog_9_method_1_code 13 = .ok (.aload_n 0, 1) := by decide +kernel
theorem d_Mod_init_14 : decode prog_9_method_1_code 14 = .ok (.sipush 6960, 3) := by decide +kernel
theorem d_Mod_init_17 : decode prog_9_method_1_code 17 = .ok (.newarray .int, 2) := by decide +kernel
theorem d_Mod_init_19 : decode prog_9_method_1_code 19 = .ok (.putfield 13, 3) := by decide +kernel
theorem d_Mod_init_22 : decode prog_9_method_1_code 22 = .ok (.aload_n 0, 1) := by decide +kernel
theorem d_Mod_init_23 : decode prog_9_method_1_code 23 = .ok (.sipush 9000, 3) := by decide +kernel
theorem d_Mod_init_26 : decode prog_9_method_1_code 26 = .ok (.newarray .int, 2) := by decide +kernel
theorem d_Mod_init_28 : decode prog_9_method_1_code 28 = .ok (.putfield 16, 3) := by decide +kernel
theorem d_Mod_init_31 : decode prog_9_method_1_code 31 = .ok (.aload_n 0, 1) := by decide +kernel
theorem d_Mod_init_32 : decode prog_9_method_1_code 32 = .ok (.iload_n 1, 1) := by decide +kernel
theorem d_Mod_init_33 : decode prog_9_method_1_code 33 = .ok (.iconst 1, 1) := by decide +kernel
theorem d_Mod_init_34 : decode prog_9_method_1_code 34 = .ok (.if_icmp .ge 7, 3) := by decide +kernel
theorem d_Mod_init_37 : decode prog_9_method_1_code 37 = .ok (.iconst 1, 1) := by decide +kernel
theorem d_Mod_init_38 : decode prog_9_method_1_code 38 = .ok (.goto 15, 3) := by decide +kernel
theorem d_Mod_init_41 : decode prog_9_method_1_code 41 = .ok (.iload_n 1, 1) := by decide +kernel
theorem d_Mod_init_42 : decode prog_9_method_1_code 42 = .ok (.bipush 48, 2) := by decide +kernel
theorem d_Mod_init_44 : decode prog_9_method_1_code 44 = .ok (.if_icmp .le 8, 3) := by decide +kernel
theorem d_Mod_init_47 : decode prog_9_method_1_code 47 = .ok (.bipush 48, 2) := by decide +kernel
theorem d_Mod_init_49 : decode prog_9_method_1_code 49 = .ok (.goto 4, 3) := by decide +kernel
theorem d_Mod_init_52 : decode prog_9_method_1_code 52 = .ok (.iload_n 1, 1) := by decide +kernel
theorem d_Mod_init_53 : decode prog_9_method_1_code 53 = .ok (.putfield 19, 3) := by decide +kernel
theorem d_Mod_init_56 : decode prog_9_method_1_code 56 = .ok (.aload_n 0, 1) := by decide +kernel
theorem d_Mod_init_57 : decode prog_9_method_1_code 57 = .ok (.iload_n 2, 1) := by decide +kernel
theorem d_Mod_init_58 : decode prog_9_method_1_code 58 = .ok (.iconst 1, 1) := by decide +kernel
theorem d_Mod_init_59 : decode prog_9_method_1_code 59 = .ok (.if_icmp .ge 7, 3) := by decide +kernel
theorem d_Mod_init_62 : decode prog_9_method_1_code 62 = .ok (.iconst 1, 1) := by decide +kernel
theorem d_Mod_init_63 : decode prog_9_method_1_code 63 = .ok (.goto 15, 3) := by decide +kernel
theorem d_Mod_init_66 : decode prog_9_method_1_code 66 = .ok (.iload_n 2, 1) := by decide +kernel
theorem d_Mod_init_67 : decode prog_9_method_1_code 67 = .ok (.bipush 48, 2) := by decide +kernel
theorem d_Mod_init_69 : decode prog_9_method_1_code 69 = .ok (.if_icmp .le 8, 3) := by decide +kernel
theorem d_Mod_init_72 : decode prog_9_method_1_code 72 = .ok (.bipush 48, 2) := by decide +kernel
theorem d_Mod_init_74 : decode prog_9_method_1_code 74 = .ok (.goto 4, 3) := by decide +kernel
theorem d_Mod_init_77 : decode prog_9_method_1_code 77 = .ok (.iload_n 2, 1) := by decide +kernel
theorem d_Mod_init_78 : decode prog_9_method_1_code 78 = .ok (.putfield 23, 3) := by decide +kernel
theorem d_Mod_init_81 : decode prog_9_method_1_code 81 = .ok (.return_, 1) := by decide +kernel
abbrev y_Mod_init : MethodName := ⟨"PicturePackerModel", "<init>", "(II)V"⟩
def wp_Mod_init (n : Nat → Nat) (x1 : Int32) (x2 : Int32) (post : (Nat → Nat) × (Nat → Nat) × Int32 × Int32 × Int32 × Int32 × Int32 × Int32 × Int32 × Int32 × Int32 × (Nat → Int32) × (Nat → Int32) × (Nat → Int32) → Prop) : Prop := ¬ (2304 : Int32) < 0 ∧ (2304 : Int32).toNatClampNeg ≤ 2304 ∧ ∀ q1 : Nat, (¬ (6960 : Int32) < 0 ∧ (6960 : Int32).toNatClampNeg ≤ 6960 ∧ ∀ q4 : Nat, (¬ (9000 : Int32) < 0 ∧ (9000 : Int32).toNatClampNeg ≤ 9000 ∧ ∀ q7 : Nat, (((1 : Int32) ≤ x1 → (((x1 : Int32) ≤ 48 → (((1 : Int32) ≤ x2 → (((x2 : Int32) ≤ 48 → (post (fun k => if k = 15 then q1 else if k = 16 then q4 else if k = 17 then q7 else 0, fun k => if k = 15 then (2304 : Int32).toNatClampNeg else if k = 16 then (6960 : Int32).toNatClampNeg else if k = 17 then (9000 : Int32).toNatClampNeg else 0, 0, x1, x2, 0, 0, 0, 0, 0, 0, fun _ => 0, fun _ => 0, fun _ => 0))) ∧ (¬ ((x2 : Int32) ≤ 48) → (post (fun k => if k = 15 then q1 else if k = 16 then q4 else if k = 17 then q7 else 0, fun k => if k = 15 then (2304 : Int32).toNatClampNeg else if k = 16 then (6960 : Int32).toNatClampNeg else if k = 17 then (9000 : Int32).toNatClampNeg else 0, 0, x1, 48, 0, 0, 0, 0, 0, 0, fun _ => 0, fun _ => 0, fun _ => 0))))) ∧ (¬ ((1 : Int32) ≤ x2) → (post (fun k => if k = 15 then q1 else if k = 16 then q4 else if k = 17 then q7 else 0, fun k => if k = 15 then (2304 : Int32).toNatClampNeg else if k = 16 then (6960 : Int32).toNatClampNeg else if k = 17 then (9000 : Int32).toNatClampNeg else 0, 0, x1, 1, 0, 0, 0, 0, 0, 0, fun _ => 0, fun _ => 0, fun _ => 0))))) ∧ (¬ ((x1 : Int32) ≤ 48) → (((1 : Int32) ≤ x2 → (((x2 : Int32) ≤ 48 → (post (fun k => if k = 15 then q1 else if k = 16 then q4 else if k = 17 then q7 else 0, fun k => if k = 15 then (2304 : Int32).toNatClampNeg else if k = 16 then (6960 : Int32).toNatClampNeg else if k = 17 then (9000 : Int32).toNatClampNeg else 0, 0, 48, x2, 0, 0, 0, 0, 0, 0, fun _ => 0, fun _ => 0, fun _ => 0))) ∧ (¬ ((x2 : Int32) ≤ 48) → (post (fun k => if k = 15 then q1 else if k = 16 then q4 else if k = 17 then q7 else 0, fun k => if k = 15 then (2304 : Int32).toNatClampNeg else if k = 16 then (6960 : Int32).toNatClampNeg else if k = 17 then (9000 : Int32).toNatClampNeg else 0, 0, 48, 48, 0, 0, 0, 0, 0, 0, fun _ => 0, fun _ => 0, fun _ => 0))))) ∧ (¬ ((1 : Int32) ≤ x2) → (post (fun k => if k = 15 then q1 else if k = 16 then q4 else if k = 17 then q7 else 0, fun k => if k = 15 then (2304 : Int32).toNatClampNeg else if k = 16 then (6960 : Int32).toNatClampNeg else if k = 17 then (9000 : Int32).toNatClampNeg else 0, 0, 48, 1, 0, 0, 0, 0, 0, 0, fun _ => 0, fun _ => 0, fun _ => 0))))))) ∧ (¬ ((1 : Int32) ≤ x1) → (((1 : Int32) ≤ x2 → (((x2 : Int32) ≤ 48 → (post (fun k => if k = 15 then q1 else if k = 16 then q4 else if k = 17 then q7 else 0, fun k => if k = 15 then (2304 : Int32).toNatClampNeg else if k = 16 then (6960 : Int32).toNatClampNeg else if k = 17 then (9000 : Int32).toNatClampNeg else 0, 0, 1, x2, 0, 0, 0, 0, 0, 0, fun _ => 0, fun _ => 0, fun _ => 0))) ∧ (¬ ((x2 : Int32) ≤ 48) → (post (fun k => if k = 15 then q1 else if k = 16 then q4 else if k = 17 then q7 else 0, fun k => if k = 15 then (2304 : Int32).toNatClampNeg else if k = 16 then (6960 : Int32).toNatClampNeg else if k = 17 then (9000 : Int32).toNatClampNeg else 0, 0, 1, 48, 0, 0, 0, 0, 0, 0, fun _ => 0, fun _ => 0, fun _ => 0))))) ∧ (¬ ((1 : Int32) ≤ x2) → (post (fun k => if k = 15 then q1 else if k = 16 then q4 else if k = 17 then q7 else 0, fun k => if k = 15 then (2304 : Int32).toNatClampNeg else if k = 16 then (6960 : Int32).toNatClampNeg else if k = 17 then (9000 : Int32).toNatClampNeg else 0, 0, 1, 1, 0, 0, 0, 0, 0, 0, fun _ => 0, fun _ => 0, fun _ => 0))))))))
set_option maxHeartbeats 2000000 in
set_option maxRecDepth 20000 in
theorem c_Mod_init {l : Launch} {dC : Nat → ClassId} {dI : Nat → Nat → Nat} {cI : ClassId} {tb : Tbs} {a n : Nat → Nat} {x1 : Int32} {x2 : Int32} {post : (Nat → Nat) × (Nat → Nat) × Int32 × Int32 × Int32 × Int32 × Int32 × Int32 × Int32 × Int32 × Int32 × (Nat → Int32) × (Nat → Int32) × (Nat → Int32) → Prop} (h : wp_Mod_init n x1 x2 post) : CtV classes dC dI cI tb l y_Mod_init prog_9_method_1_code 3 ({ frames := 1, cells := 3, slots := 18264, locals := 21 }) [.ref (a 7), .int x1, .int x2] [(a 7, .inr (7, [.int 0, .int 0, .int 0, .null, .null, .int 0, .null, .int 0, .int 0, .int 0, .int 0, .int 0]))] ((Nat → Nat) × (Nat → Nat) × Int32 × Int32 × Int32 × Int32 × Int32 × Int32 × Int32 × Int32 × Int32 × (Nat → Int32) × (Nat → Int32) × (Nat → Int32)) (fun u => [(a 7, .inr (7, [.int u.2.2.1, .int u.2.2.2.1, .int u.2.2.2.2.1, .ref (u.1 15), .ref (u.1 16), .int u.2.2.2.2.2.1, .ref (u.1 17), .int u.2.2.2.2.2.2.1, .int u.2.2.2.2.2.2.2.1, .int u.2.2.2.2.2.2.2.2.1, .int u.2.2.2.2.2.2.2.2.2.1, .int u.2.2.2.2.2.2.2.2.2.2.1])), (u.1 15, .inl (cI, u.2.1 15, .inl u.2.2.2.2.2.2.2.2.2.2.2.1)), (u.1 16, .inl (cI, u.2.1 16, .inl u.2.2.2.2.2.2.2.2.2.2.2.2.1)), (u.1 17, .inl (cI, u.2.1 17, .inl u.2.2.2.2.2.2.2.2.2.2.2.2.2))]) post := by
  refine startV (by decide) (Nat.le_of_ble_eq_true rfl) ?_
  intro p e s m below meth c ls E hr hlk hnm hl hw
  have hl : lv_has ls 3 [(0, .ref (a 7)), (1, .int x1), (2, .int x2)] := hl
  generalize va_A [(a 7, .inr (7, [.int 0, .int 0, .int 0, .null, .null, .int 0, .null, .int 0, .int 0, .int 0, .int 0, .int 0]))] s.heap.size = A at hw ⊢
  obtain ⟨hx, hb, hml, hown, hts⟩ := id E
  unfold wp_Mod_init at h
  refine lv_aload_n hx hb d_Mod_init_0 rfl (lv_at hl 0 rfl) ?_
  refine kobj E hl.1 tw428 tw49 tw50 (Nat.le_of_ble_eq_true rfl) (Nat.le_of_ble_eq_true rfl) d_Mod_init_1 ?_
  refine lv_aload_n hx hb d_Mod_init_4 rfl (lv_at hl 0 rfl) ?_
  refine lv_sipush (v := 2304) hx hb d_Mod_init_5 (by decide) ?_
  obtain ⟨b2, b3, h⟩ := h
  refine knewa 2304 E hw tw83 b2 b3 (by decide) (Nat.le_of_ble_eq_true rfl) (Nat.le_of_ble_eq_true rfl) d_Mod_init_8 (fun q1 H hw => ?_)
  have h := h q1
  have hw : Wl classes dC dI cI tb A s H _ [(a 7, .inr (7, [.int 0, .int 0, .int 0, .null, .null, .int 0, .null, .int 0, .int 0, .int 0, .int 0, .int 0])), (q1, .inl (cI, (2304 : Int32).toNatClampNeg, .inl (fun _ => 0)))] := hw
  refine kputF (v := .ref q1) (ty := .array .int) (T := F_Mod) (ws' := [(a 7, .inr (7, [.int 0, .int 0, .int 0, .ref q1, .null, .int 0, .null, .int 0, .int 0, .int 0, .int 0, .int 0])), (q1, .inl (cI, (2304 : Int32).toNatClampNeg, .inl (fun _ => 0)))]) E hw in_Mod t_Mod t_Mod_ok n_Mod rfl 0 3 rfl (by decide) tw432 rfl hnm rfl rfl rfl rfl (Nat.le_of_ble_eq_true rfl) rfl d_Mod_init_10 (fun H locs hw => ?_)
  refine lv_aload_n hx hb d_Mod_init_13 rfl (lv_at hl 0 rfl) ?_
  refine lv_sipush (v := 6960) hx hb d_Mod_init_14 (by decide) ?_
  obtain ⟨b5, b6, h⟩ := h
  refine knewa 6960 E hw tw83 b5 b6 (by decide) (Nat.le_of_ble_eq_true rfl) (Nat.le_of_ble_eq_true rfl) d_Mod_init_17 (fun q4 H hw => ?_)
  have h := h q4
  have hw : Wl classes dC dI cI tb A s H _ [(a 7, .inr (7, [.int 0, .int 0, .int 0, .ref q1, .null, .int 0, .null, .int 0, .int 0, .int 0, .int 0, .int 0])), (q1, .inl (cI, (2304 : Int32).toNatClampNeg, .inl (fun _ => 0))), (q4, .inl (cI, (6960 : Int32).toNatClampNeg, .inl (fun _ => 0)))] := hw
  refine kputF (v := .ref q4) (ty := .array .int) (T := F_Mod) (ws' := [(a 7, .inr (7, [.int 0, .int 0, .int 0, .ref q1, .ref q4, .int 0, .null, .int 0, .int 0, .int 0, .int 0, .int 0])), (q1, .inl (cI, (2304 : Int32).toNatClampNeg, .inl (fun _ => 0))), (q4, .inl (cI, (6960 : Int32).toNatClampNeg, .inl (fun _ => 0)))]) E hw in_Mod t_Mod t_Mod_ok n_Mod rfl 0 4 rfl (by decide) tw433 rfl hnm rfl rfl rfl rfl (Nat.le_of_ble_eq_true rfl) rfl d_Mod_init_19 (fun H locs hw => ?_)
  refine lv_aload_n hx hb d_Mod_init_22 rfl (lv_at hl 0 rfl) ?_
  refine lv_sipush (v := 9000) hx hb d_Mod_init_23 (by decide) ?_
  obtain ⟨b8, b9, h⟩ := h
  refine knewa 9000 E hw tw83 b8 b9 (by decide) (Nat.le_of_ble_eq_true rfl) (Nat.le_of_ble_eq_true rfl) d_Mod_init_26 (fun q7 H hw => ?_)
  have h := h q7
  have hw : Wl classes dC dI cI tb A s H _ [(a 7, .inr (7, [.int 0, .int 0, .int 0, .ref q1, .ref q4, .int 0, .null, .int 0, .int 0, .int 0, .int 0, .int 0])), (q1, .inl (cI, (2304 : Int32).toNatClampNeg, .inl (fun _ => 0))), (q4, .inl (cI, (6960 : Int32).toNatClampNeg, .inl (fun _ => 0))), (q7, .inl (cI, (9000 : Int32).toNatClampNeg, .inl (fun _ => 0)))] := hw
  refine kputF (v := .ref q7) (ty := .array .int) (T := F_Mod) (ws' := [(a 7, .inr (7, [.int 0, .int 0, .int 0, .ref q1, .ref q4, .int 0, .ref q7, .int 0, .int 0, .int 0, .int 0, .int 0])), (q1, .inl (cI, (2304 : Int32).toNatClampNeg, .inl (fun _ => 0))), (q4, .inl (cI, (6960 : Int32).toNatClampNeg, .inl (fun _ => 0))), (q7, .inl (cI, (9000 : Int32).toNatClampNeg, .inl (fun _ => 0)))]) E hw in_Mod t_Mod t_Mod_ok n_Mod rfl 0 6 rfl (by decide) tw435 rfl hnm rfl rfl rfl rfl (Nat.le_of_ble_eq_true rfl) rfl d_Mod_init_28 (fun H locs hw => ?_)
  refine lv_aload_n hx hb d_Mod_init_31 rfl (lv_at hl 0 rfl) ?_
  refine lv_iload_n hx hb d_Mod_init_32 rfl (lv_at hl 1 rfl) ?_
  refine lv_iconst (v := 1) hx hb d_Mod_init_33 (by decide) ?_
  refine lv_icmp_ge (tgt := 41) hx hb d_Mod_init_34 (by decide) (fun c10 => ?_) (fun c10 => ?_)
  · have h := h.1 c10
    refine lv_iload_n hx hb d_Mod_init_41 rfl (lv_at hl 1 rfl) ?_
    refine lv_bipush (v := 48) hx hb d_Mod_init_42 (by decide) ?_
    refine lv_icmp_le (tgt := 52) hx hb d_Mod_init_44 (by decide) (fun c11 => ?_) (fun c11 => ?_)
    · have h := h.1 c11
      refine lv_iload_n hx hb d_Mod_init_52 rfl (lv_at hl 1 rfl) ?_
      refine kputF (v := .int x1) (ty := .int) (T := F_Mod) (ws' := [(a 7, .inr (7, [.int 0, .int x1, .int 0, .ref q1, .ref q4, .int 0, .ref q7, .int 0, .int 0, .int 0, .int 0, .int 0])), (q1, .inl (cI, (2304 : Int32).toNatClampNeg, .inl (fun _ => 0))), (q4, .inl (cI, (6960 : Int32).toNatClampNeg, .inl (fun _ => 0))), (q7, .inl (cI, (9000 : Int32).toNatClampNeg, .inl (fun _ => 0)))]) E hw in_Mod t_Mod t_Mod_ok n_Mod rfl 0 1 rfl (by decide) tw430 rfl hnm rfl rfl rfl rfl (Nat.le_of_ble_eq_true rfl) rfl d_Mod_init_53 (fun H locs hw => ?_)
      refine lv_aload_n hx hb d_Mod_init_56 rfl (lv_at hl 0 rfl) ?_
      refine lv_iload_n hx hb d_Mod_init_57 rfl (lv_at hl 2 rfl) ?_
      refine lv_iconst (v := 1) hx hb d_Mod_init_58 (by decide) ?_
      refine lv_icmp_ge (tgt := 66) hx hb d_Mod_init_59 (by decide) (fun c12 => ?_) (fun c12 => ?_)
      · have h := h.1 c12
        refine lv_iload_n hx hb d_Mod_init_66 rfl (lv_at hl 2 rfl) ?_
        refine lv_bipush (v := 48) hx hb d_Mod_init_67 (by decide) ?_
        refine lv_icmp_le (tgt := 77) hx hb d_Mod_init_69 (by decide) (fun c13 => ?_) (fun c13 => ?_)
        · have h := h.1 c13
          refine lv_iload_n hx hb d_Mod_init_77 rfl (lv_at hl 2 rfl) ?_
          refine kputF (v := .int x2) (ty := .int) (T := F_Mod) (ws' := [(a 7, .inr (7, [.int 0, .int x1, .int x2, .ref q1, .ref q4, .int 0, .ref q7, .int 0, .int 0, .int 0, .int 0, .int 0])), (q1, .inl (cI, (2304 : Int32).toNatClampNeg, .inl (fun _ => 0))), (q4, .inl (cI, (6960 : Int32).toNatClampNeg, .inl (fun _ => 0))), (q7, .inl (cI, (9000 : Int32).toNatClampNeg, .inl (fun _ => 0)))]) E hw in_Mod t_Mod t_Mod_ok n_Mod rfl 0 2 rfl (by decide) tw431 rfl hnm rfl rfl rfl rfl (Nat.le_of_ble_eq_true rfl) rfl d_Mod_init_78 (fun H locs hw => ?_)
          exact retV (out := fun u => [(a 7, .inr (7, [.int u.2.2.1, .int u.2.2.2.1, .int u.2.2.2.2.1, .ref (u.1 15), .ref (u.1 16), .int u.2.2.2.2.2.1, .ref (u.1 17), .int u.2.2.2.2.2.2.1, .int u.2.2.2.2.2.2.2.1, .int u.2.2.2.2.2.2.2.2.1, .int u.2.2.2.2.2.2.2.2.2.1, .int u.2.2.2.2.2.2.2.2.2.2.1])), (u.1 15, .inl (cI, u.2.1 15, .inl u.2.2.2.2.2.2.2.2.2.2.2.1)), (u.1 16, .inl (cI, u.2.1 16, .inl u.2.2.2.2.2.2.2.2.2.2.2.2.1)), (u.1 17, .inl (cI, u.2.1 17, .inl u.2.2.2.2.2.2.2.2.2.2.2.2.2))]) (u := (fun k => if k = 15 then q1 else if k = 16 then q4 else if k = 17 then q7 else 0, fun k => if k = 15 then (2304 : Int32).toNatClampNeg else if k = 16 then (6960 : Int32).toNatClampNeg else if k = 17 then (9000 : Int32).toNatClampNeg else 0, 0, x1, x2, 0, 0, 0, 0, 0, 0, fun _ => 0, fun _ => 0, fun _ => 0)) E hr hlk hw h d_Mod_init_81
        · have h := h.2 c13
          refine lv_bipush (v := 48) hx hb d_Mod_init_72 (by decide) ?_
          refine lv_goto (tgt := 78) hx hb d_Mod_init_74 (by decide) ?_
          refine kputF (v := .int 48) (ty := .int) (T := F_Mod) (ws' := [(a 7, .inr (7, [.int 0, .int x1, .int 48, .ref q1, .ref q4, .int 0, .ref q7, .int 0, .int 0, .int 0, .int 0, .int 0])), (q1, .inl (cI, (2304 : Int32).toNatClampNeg, .inl (fun _ => 0))), (q4, .inl (cI, (6960 : Int32).toNatClampNeg, .inl (fun _ => 0))), (q7, .inl (cI, (9000 : Int32).toNatClampNeg, .inl (fun _ => 0)))]) E hw in_Mod t_Mod t_Mod_ok n_Mod rfl 0 2 rfl (by decide) tw431 rfl hnm rfl rfl rfl rfl (Nat.le_of_ble_eq_true rfl) rfl d_Mod_init_78 (fun H locs hw => ?_)
          exact retV (out := fun u => [(a 7, .inr (7, [.int u.2.2.1, .int u.2.2.2.1, .int u.2.2.2.2.1, .ref (u.1 15), .ref (u.1 16), .int u.2.2.2.2.2.1, .ref (u.1 17), .int u.2.2.2.2.2.2.1, .int u.2.2.2.2.2.2.2.1, .int u.2.2.2.2.2.2.2.2.1, .int u.2.2.2.2.2.2.2.2.2.1, .int u.2.2.2.2.2.2.2.2.2.2.1])), (u.1 15, .inl (cI, u.2.1 15, .inl u.2.2.2.2.2.2.2.2.2.2.2.1)), (u.1 16, .inl (cI, u.2.1 16, .inl u.2.2.2.2.2.2.2.2.2.2.2.2.1)), (u.1 17, .inl (cI, u.2.1 17, .inl u.2.2.2.2.2.2.2.2.2.2.2.2.2))]) (u := (fun k => if k = 15 then q1 else if k = 16 then q4 else if k = 17 then q7 else 0, fun k => if k = 15 then (2304 : Int32).toNatClampNeg else if k = 16 then (6960 : Int32).toNatClampNeg else if k = 17 then (9000 : Int32).toNatClampNeg else 0, 0, x1, 48, 0, 0, 0, 0, 0, 0, fun _ => 0, fun _ => 0, fun _ => 0)) E hr hlk hw h d_Mod_init_81
      · have h := h.2 c12
        refine lv_iconst (v := 1) hx hb d_Mod_init_62 (by decide) ?_
        refine lv_goto (tgt := 78) hx hb d_Mod_init_63 (by decide) ?_
        refine kputF (v := .int 1) (ty := .int) (T := F_Mod) (ws' := [(a 7, .inr (7, [.int 0, .int x1, .int 1, .ref q1, .ref q4, .int 0, .ref q7, .int 0, .int 0, .int 0, .int 0, .int 0])), (q1, .inl (cI, (2304 : Int32).toNatClampNeg, .inl (fun _ => 0))), (q4, .inl (cI, (6960 : Int32).toNatClampNeg, .inl (fun _ => 0))), (q7, .inl (cI, (9000 : Int32).toNatClampNeg, .inl (fun _ => 0)))]) E hw in_Mod t_Mod t_Mod_ok n_Mod rfl 0 2 rfl (by decide) tw431 rfl hnm rfl rfl rfl rfl (Nat.le_of_ble_eq_true rfl) rfl d_Mod_init_78 (fun H locs hw => ?_)
        exact retV (out := fun u => [(a 7, .inr (7, [.int u.2.2.1, .int u.2.2.2.1, .int u.2.2.2.2.1, .ref (u.1 15), .ref (u.1 16), .int u.2.2.2.2.2.1, .ref (u.1 17), .int u.2.2.2.2.2.2.1, .int u.2.2.2.2.2.2.2.1, .int u.2.2.2.2.2.2.2.2.1, .int u.2.2.2.2.2.2.2.2.2.1, .int u.2.2.2.2.2.2.2.2.2.2.1])), (u.1 15, .inl (cI, u.2.1 15, .inl u.2.2.2.2.2.2.2.2.2.2.2.1)), (u.1 16, .inl (cI, u.2.1 16, .inl u.2.2.2.2.2.2.2.2.2.2.2.2.1)), (u.1 17, .inl (cI, u.2.1 17, .inl u.2.2.2.2.2.2.2.2.2.2.2.2.2))]) (u := (fun k => if k = 15 then q1 else if k = 16 then q4 else if k = 17 then q7 else 0, fun k => if k = 15 then (2304 : Int32).toNatClampNeg else if k = 16 then (6960 : Int32).toNatClampNeg else if k = 17 then (9000 : Int32).toNatClampNeg else 0, 0, x1, 1, 0, 0, 0, 0, 0, 0, fun _ => 0, fun _ => 0, fun _ => 0)) E hr hlk hw h d_Mod_init_81
    · have h := h.2 c11
      refine lv_bipush (v := 48) hx hb d_Mod_init_47 (by decide) ?_
      refine lv_goto (tgt := 53) hx hb d_Mod_init_49 (by decide) ?_
      refine kputF (v := .int 48) (ty := .int) (T := F_Mod) (ws' := [(a 7, .inr (7, [.int 0, .int 48, .int 0, .ref q1, .ref q4, .int 0, .ref q7, .int 0, .int 0, .int 0, .int 0, .int 0])), (q1, .inl (cI, (2304 : Int32).toNatClampNeg, .inl (fun _ => 0))), (q4, .inl (cI, (6960 : Int32).toNatClampNeg, .inl (fun _ => 0))), (q7, .inl (cI, (9000 : Int32).toNatClampNeg, .inl (fun _ => 0)))]) E hw in_Mod t_Mod t_Mod_ok n_Mod rfl 0 1 rfl (by decide) tw430 rfl hnm rfl rfl rfl rfl (Nat.le_of_ble_eq_true rfl) rfl d_Mod_init_53 (fun H locs hw => ?_)
      refine lv_aload_n hx hb d_Mod_init_56 rfl (lv_at hl 0 rfl) ?_
      refine lv_iload_n hx hb d_Mod_init_57 rfl (lv_at hl 2 rfl) ?_
      refine lv_iconst (v := 1) hx hb d_Mod_init_58 (by decide) ?_
      refine lv_icmp_ge (tgt := 66) hx hb d_Mod_init_59 (by decide) (fun c14 => ?_) (fun c14 => ?_)
      · have h := h.1 c14
        refine lv_iload_n hx hb d_Mod_init_66 rfl (lv_at hl 2 rfl) ?_
        refine lv_bipush (v := 48) hx hb d_Mod_init_67 (by decide) ?_
        refine lv_icmp_le (tgt := 77) hx hb d_Mod_init_69 (by decide) (fun c15 => ?_) (fun c15 => ?_)
        · have h := h.1 c15
          refine lv_iload_n hx hb d_Mod_init_77 rfl (lv_at hl 2 rfl) ?_
          refine kputF (v := .int x2) (ty := .int) (T := F_Mod) (ws' := [(a 7, .inr (7, [.int 0, .int 48, .int x2, .ref q1, .ref q4, .int 0, .ref q7, .int 0, .int 0, .int 0, .int 0, .int 0])), (q1, .inl (cI, (2304 : Int32).toNatClampNeg, .inl (fun _ => 0))), (q4, .inl (cI, (6960 : Int32).toNatClampNeg, .inl (fun _ => 0))), (q7, .inl (cI, (9000 : Int32).toNatClampNeg, .inl (fun _ => 0)))]) E hw in_Mod t_Mod t_Mod_ok n_Mod rfl 0 2 rfl (by decide) tw431 rfl hnm rfl rfl rfl rfl (Nat.le_of_ble_eq_true rfl) rfl d_Mod_init_78 (fun H locs hw => ?_)
          exact retV (out := fun u => [(a 7, .inr (7, [.int u.2.2.1, .int u.2.2.2.1, .int u.2.2.2.2.1, .ref (u.1 15), .ref (u.1 16), .int u.2.2.2.2.2.1, .ref (u.1 17), .int u.2.2.2.2.2.2.1, .int u.2.2.2.2.2.2.2.1, .int u.2.2.2.2.2.2.2.2.1, .int u.2.2.2.2.2.2.2.2.2.1, .int u.2.2.2.2.2.2.2.2.2.2.1])), (u.1 15, .inl (cI, u.2.1 15, .inl u.2.2.2.2.2.2.2.2.2.2.2.1)), (u.1 16, .inl (cI, u.2.1 16, .inl u.2.2.2.2.2.2.2.2.2.2.2.2.1)), (u.1 17, .inl (cI, u.2.1 17, .inl u.2.2.2.2.2.2.2.2.2.2.2.2.2))]) (u := (fun k => if k = 15 then q1 else if k = 16 then q4 else if k = 17 then q7 else 0, fun k => if k = 15 then (2304 : Int32).toNatClampNeg else if k = 16 then (6960 : Int32).toNatClampNeg else if k = 17 then (9000 : Int32).toNatClampNeg else 0, 0, 48, x2, 0, 0, 0, 0, 0, 0, fun _ => 0, fun _ => 0, fun _ => 0)) E hr hlk hw h d_Mod_init_81
        · have h := h.2 c15
          refine lv_bipush (v := 48) hx hb d_Mod_init_72 (by decide) ?_
          refine lv_goto (tgt := 78) hx hb d_Mod_init_74 (by decide) ?_
          refine kputF (v := .int 48) (ty := .int) (T := F_Mod) (ws' := [(a 7, .inr (7, [.int 0, .int 48, .int 48, .ref q1, .ref q4, .int 0, .ref q7, .int 0, .int 0, .int 0, .int 0, .int 0])), (q1, .inl (cI, (2304 : Int32).toNatClampNeg, .inl (fun _ => 0))), (q4, .inl (cI, (6960 : Int32).toNatClampNeg, .inl (fun _ => 0))), (q7, .inl (cI, (9000 : Int32).toNatClampNeg, .inl (fun _ => 0)))]) E hw in_Mod t_Mod t_Mod_ok n_Mod rfl 0 2 rfl (by decide) tw431 rfl hnm rfl rfl rfl rfl (Nat.le_of_ble_eq_true rfl) rfl d_Mod_init_78 (fun H locs hw => ?_)
          exact retV (out := fun u => [(a 7, .inr (7, [.int u.2.2.1, .int u.2.2.2.1, .int u.2.2.2.2.1, .ref (u.1 15), .ref (u.1 16), .int u.2.2.2.2.2.1, .ref (u.1 17), .int u.2.2.2.2.2.2.1, .int u.2.2.2.2.2.2.2.1, .int u.2.2.2.2.2.2.2.2.1, .int u.2.2.2.2.2.2.2.2.2.1, .int u.2.2.2.2.2.2.2.2.2.2.1])), (u.1 15, .inl (cI, u.2.1 15, .inl u.2.2.2.2.2.2.2.2.2.2.2.1)), (u.1 16, .inl (cI, u.2.1 16, .inl u.2.2.2.2.2.2.2.2.2.2.2.2.1)), (u.1 17, .inl (cI, u.2.1 17, .inl u.2.2.2.2.2.2.2.2.2.2.2.2.2))]) (u := (fun k => if k = 15 then q1 else if k = 16 then q4 else if k = 17 then q7 else 0, fun k => if k = 15 then (2304 : Int32).toNatClampNeg else if k = 16 then (6960 : Int32).toNatClampNeg else if k = 17 then (9000 : Int32).toNatClampNeg else 0, 0, 48, 48, 0, 0, 0, 0, 0, 0, fun _ => 0, fun _ => 0, fun _ => 0)) E hr hlk hw h d_Mod_init_81
      · have h := h.2 c14
        refine lv_iconst (v := 1) hx hb d_Mod_init_62 (by decide) ?_
        refine lv_goto (tgt := 78) hx hb d_Mod_init_63 (by decide) ?_
        refine kputF (v := .int 1) (ty := .int) (T := F_Mod) (ws' := [(a 7, .inr (7, [.int 0, .int 48, .int 1, .ref q1, .ref q4, .int 0, .ref q7, .int 0, .int 0, .int 0, .int 0, .int 0])), (q1, .inl (cI, (2304 : Int32).toNatClampNeg, .inl (fun _ => 0))), (q4, .inl (cI, (6960 : Int32).toNatClampNeg, .inl (fun _ => 0))), (q7, .inl (cI, (9000 : Int32).toNatClampNeg, .inl (fun _ => 0)))]) E hw in_Mod t_Mod t_Mod_ok n_Mod rfl 0 2 rfl (by decide) tw431 rfl hnm rfl rfl rfl rfl (Nat.le_of_ble_eq_true rfl) rfl d_Mod_init_78 (fun H locs hw => ?_)
        exact retV (out := fun u => [(a 7, .inr (7, [.int u.2.2.1, .int u.2.2.2.1, .int u.2.2.2.2.1, .ref (u.1 15), .ref (u.1 16), .int u.2.2.2.2.2.1, .ref (u.1 17), .int u.2.2.2.2.2.2.1, .int u.2.2.2.2.2.2.2.1, .int u.2.2.2.2.2.2.2.2.1, .int u.2.2.2.2.2.2.2.2.2.1, .int u.2.2.2.2.2.2.2.2.2.2.1])), (u.1 15, .inl (cI, u.2.1 15, .inl u.2.2.2.2.2.2.2.2.2.2.2.1)), (u.1 16, .inl (cI, u.2.1 16, .inl u.2.2.2.2.2.2.2.2.2.2.2.2.1)), (u.1 17, .inl (cI, u.2.1 17, .inl u.2.2.2.2.2.2.2.2.2.2.2.2.2))]) (u := (fun k => if k = 15 then q1 else if k = 16 then q4 else if k = 17 then q7 else 0, fun k => if k = 15 then (2304 : Int32).toNatClampNeg else if k = 16 then (6960 : Int32).toNatClampNeg else if k = 17 then (9000 : Int32).toNatClampNeg else 0, 0, 48, 1, 0, 0, 0, 0, 0, 0, fun _ => 0, fun _ => 0, fun _ => 0)) E hr hlk hw h d_Mod_init_81
  · have h := h.2 c10
    refine lv_iconst (v := 1) hx hb d_Mod_init_37 (by decide) ?_
    refine lv_goto (tgt := 53) hx hb d_Mod_init_38 (by decide) ?_
    refine kputF (v := .int 1) (ty := .int) (T := F_Mod) (ws' := [(a 7, .inr (7, [.int 0, .int 1, .int 0, .ref q1, .ref q4, .int 0, .ref q7, .int 0, .int 0, .int 0, .int 0, .int 0])), (q1, .inl (cI, (2304 : Int32).toNatClampNeg, .inl (fun _ => 0))), (q4, .inl (cI, (6960 : Int32).toNatClampNeg, .inl (fun _ => 0))), (q7, .inl (cI, (9000 : Int32).toNatClampNeg, .inl (fun _ => 0)))]) E hw in_Mod t_Mod t_Mod_ok n_Mod rfl 0 1 rfl (by decide) tw430 rfl hnm rfl rfl rfl rfl (Nat.le_of_ble_eq_true rfl) rfl d_Mod_init_53 (fun H locs hw => ?_)
    refine lv_aload_n hx hb d_Mod_init_56 rfl (lv_at hl 0 rfl) ?_
    refine lv_iload_n hx hb d_Mod_init_57 rfl (lv_at hl 2 rfl) ?_
    refine lv_iconst (v := 1) hx hb d_Mod_init_58 (by decide) ?_
    refine lv_icmp_ge (tgt := 66) hx hb d_Mod_init_59 (by decide) (fun c16 => ?_) (fun c16 => ?_)
    · have h := h.1 c16
      refine lv_iload_n hx hb d_Mod_init_66 rfl (lv_at hl 2 rfl) ?_
      refine lv_bipush (v := 48) hx hb d_Mod_init_67 (by decide) ?_
      refine lv_icmp_le (tgt := 77) hx hb d_Mod_init_69 (by decide) (fun c17 => ?_) (fun c17 => ?_)
      · have h := h.1 c17
        refine lv_iload_n hx hb d_Mod_init_77 rfl (lv_at hl 2 rfl) ?_
        refine kputF (v := .int x2) (ty := .int) (T := F_Mod) (ws' := [(a 7, .inr (7, [.int 0, .int 1, .int x2, .ref q1, .ref q4, .int 0, .ref q7, .int 0, .int 0, .int 0, .int 0, .int 0])), (q1, .inl (cI, (2304 : Int32).toNatClampNeg, .inl (fun _ => 0))), (q4, .inl (cI, (6960 : Int32).toNatClampNeg, .inl (fun _ => 0))), (q7, .inl (cI, (9000 : Int32).toNatClampNeg, .inl (fun _ => 0)))]) E hw in_Mod t_Mod t_Mod_ok n_Mod rfl 0 2 rfl (by decide) tw431 rfl hnm rfl rfl rfl rfl (Nat.le_of_ble_eq_true rfl) rfl d_Mod_init_78 (fun H locs hw => ?_)
        exact retV (out := fun u => [(a 7, .inr (7, [.int u.2.2.1, .int u.2.2.2.1, .int u.2.2.2.2.1, .ref (u.1 15), .ref (u.1 16), .int u.2.2.2.2.2.1, .ref (u.1 17), .int u.2.2.2.2.2.2.1, .int u.2.2.2.2.2.2.2.1, .int u.2.2.2.2.2.2.2.2.1, .int u.2.2.2.2.2.2.2.2.2.1, .int u.2.2.2.2.2.2.2.2.2.2.1])), (u.1 15, .inl (cI, u.2.1 15, .inl u.2.2.2.2.2.2.2.2.2.2.2.1)), (u.1 16, .inl (cI, u.2.1 16, .inl u.2.2.2.2.2.2.2.2.2.2.2.2.1)), (u.1 17, .inl (cI, u.2.1 17, .inl u.2.2.2.2.2.2.2.2.2.2.2.2.2))]) (u := (fun k => if k = 15 then q1 else if k = 16 then q4 else if k = 17 then q7 else 0, fun k => if k = 15 then (2304 : Int32).toNatClampNeg else if k = 16 then (6960 : Int32).toNatClampNeg else if k = 17 then (9000 : Int32).toNatClampNeg else 0, 0, 1, x2, 0, 0, 0, 0, 0, 0, fun _ => 0, fun _ => 0, fun _ => 0)) E hr hlk hw h d_Mod_init_81
      · have h := h.2 c17
        refine lv_bipush (v := 48) hx hb d_Mod_init_72 (by decide) ?_
        refine lv_goto (tgt := 78) hx hb d_Mod_init_74 (by decide) ?_
        refine kputF (v := .int 48) (ty := .int) (T := F_Mod) (ws' := [(a 7, .inr (7, [.int 0, .int 1, .int 48, .ref q1, .ref q4, .int 0, .ref q7, .int 0, .int 0, .int 0, .int 0, .int 0])), (q1, .inl (cI, (2304 : Int32).toNatClampNeg, .inl (fun _ => 0))), (q4, .inl (cI, (6960 : Int32).toNatClampNeg, .inl (fun _ => 0))), (q7, .inl (cI, (9000 : Int32).toNatClampNeg, .inl (fun _ => 0)))]) E hw in_Mod t_Mod t_Mod_ok n_Mod rfl 0 2 rfl (by decide) tw431 rfl hnm rfl rfl rfl rfl (Nat.le_of_ble_eq_true rfl) rfl d_Mod_init_78 (fun H locs hw => ?_)
        exact retV (out := fun u => [(a 7, .inr (7, [.int u.2.2.1, .int u.2.2.2.1, .int u.2.2.2.2.1, .ref (u.1 15), .ref (u.1 16), .int u.2.2.2.2.2.1, .ref (u.1 17), .int u.2.2.2.2.2.2.1, .int u.2.2.2.2.2.2.2.1, .int u.2.2.2.2.2.2.2.2.1, .int u.2.2.2.2.2.2.2.2.2.1, .int u.2.2.2.2.2.2.2.2.2.2.1])), (u.1 15, .inl (cI, u.2.1 15, .inl u.2.2.2.2.2.2.2.2.2.2.2.1)), (u.1 16, .inl (cI, u.2.1 16, .inl u.2.2.2.2.2.2.2.2.2.2.2.2.1)), (u.1 17, .inl (cI, u.2.1 17, .inl u.2.2.2.2.2.2.2.2.2.2.2.2.2))]) (u := (fun k => if k = 15 then q1 else if k = 16 then q4 else if k = 17 then q7 else 0, fun k => if k = 15 then (2304 : Int32).toNatClampNeg else if k = 16 then (6960 : Int32).toNatClampNeg else if k = 17 then (9000 : Int32).toNatClampNeg else 0, 0, 1, 48, 0, 0, 0, 0, 0, 0, fun _ => 0, fun _ => 0, fun _ => 0)) E hr hlk hw h d_Mod_init_81
    · have h := h.2 c16
      refine lv_iconst (v := 1) hx hb d_Mod_init_62 (by decide) ?_
      refine lv_goto (tgt := 78) hx hb d_Mod_init_63 (by decide) ?_
      refine kputF (v := .int 1) (ty := .int) (T := F_Mod) (ws' := [(a 7, .inr (7, [.int 0, .int 1, .int 1, .ref q1, .ref q4, .int 0, .ref q7, .int 0, .int 0, .int 0, .int 0, .int 0])), (q1, .inl (cI, (2304 : Int32).toNatClampNeg, .inl (fun _ => 0))), (q4, .inl (cI, (6960 : Int32).toNatClampNeg, .inl (fun _ => 0))), (q7, .inl (cI, (9000 : Int32).toNatClampNeg, .inl (fun _ => 0)))]) E hw in_Mod t_Mod t_Mod_ok n_Mod rfl 0 2 rfl (by decide) tw431 rfl hnm rfl rfl rfl rfl (Nat.le_of_ble_eq_true rfl) rfl d_Mod_init_78 (fun H locs hw => ?_)
      exact retV (out := fun u => [(a 7, .inr (7, [.int u.2.2.1, .int u.2.2.2.1, .int u.2.2.2.2.1, .ref (u.1 15), .ref (u.1 16), .int u.2.2.2.2.2.1, .ref (u.1 17), .int u.2.2.2.2.2.2.1, .int u.2.2.2.2.2.2.2.1, .int u.2.2.2.2.2.2.2.2.1, .int u.2.2.2.2.2.2.2.2.2.1, .int u.2.2.2.2.2.2.2.2.2.2.1])), (u.1 15, .inl (cI, u.2.1 15, .inl u.2.2.2.2.2.2.2.2.2.2.2.1)), (u.1 16, .inl (cI, u.2.1 16, .inl u.2.2.2.2.2.2.2.2.2.2.2.2.1)), (u.1 17, .inl (cI, u.2.1 17, .inl u.2.2.2.2.2.2.2.2.2.2.2.2.2))]) (u := (fun k => if k = 15 then q1 else if k = 16 then q4 else if k = 17 then q7 else 0, fun k => if k = 15 then (2304 : Int32).toNatClampNeg else if k = 16 then (6960 : Int32).toNatClampNeg else if k = 17 then (9000 : Int32).toNatClampNeg else 0, 0, 1, 1, 0, 0, 0, 0, 0, 0, fun _ => 0, fun _ => 0, fun _ => 0)) E hr hlk hw h d_Mod_init_81
-- PicturePacker$Chunks.<init>(LPicturePacker$Output;)V
theorem d_Chk_init_0 : decode prog_2_method_1_code 0 = .ok (.aload_n 0, 1) := by decide +kernel
theorem d_Chk_init_1 : decode prog_2_method_1_code 1 = .ok (.invokespecial 1, 3) := by decide +kernel
theorem d_Chk_init_4 : decode prog_2_method_1_code 4 = .ok (.aload_n 0, 1) := by decide +kernel
theorem d_Chk_init_5 : decode prog_2_method_1_code 5 = .ok (.aload_n 1, 1) := by decide +kernel
theorem d_Chk_init_6 : decode prog_2_method_1_code 6 = .ok (.putfield 7, 3) := by decide +kernel
theorem d_Chk_init_9 : decode prog_2_method_1_code 9 = .ok (.aload_n 0, 1) := by decide +kernel
theorem d_Chk_init_10 : decode prog_2_method_1_code 10 = .ok (.sipush 256, 3) := by decide +kernel
theorem d_Chk_init_13 : decode prog_2_method_1_code 13 = .ok (.newarray .int, 2) := by decide +kernel
theorem d_Chk_init_15 : decode prog_2_method_1_code 15 = .ok (.putfield 13, 3) := by decide +kernel
theorem d_Chk_init_18 : decode prog_2_method_1_code 18 = .ok (.iconst 0, 1) := by decide +kernel
theorem d_Chk_init_19 : decode prog_2_method_1_code 19 = .ok (.istore_n 2, 1) := by decide +kernel
theorem d_Chk_init_20 : decode prog_2_method_1_code 20 = .ok (.iload_n 2, 1) := by decide +kernel
theorem d_Chk_init_21 : decode prog_2_method_1_code 21 = .ok (.aload_n 0, 1) := by decide +kernel
theorem d_Chk_init_22 : decode prog_2_method_1_code 22 = .ok (.getfield 13, 3) := by decide +kernel
theorem d_Chk_init_25 : decode prog_2_method_1_code 25 = .ok (.arraylength, 1) := by decide +kernel
theorem d_Chk_init_26 : decode prog_2_method_1_code 26 = .ok (.if_icmp .ge 19, 3) := by decide +kernel
theorem d_Chk_init_29 : decode prog_2_method_1_code 29 = .ok (.aload_n 0, 1) := by decide +kernel
theorem d_Chk_init_30 : decode prog_2_method_1_code 30 = .ok (.getfield 13, 3) := by decide +kernel
theorem d_Chk_init_33 : decode prog_2_method_1_code 33 = .ok (.iload_n 2, 1) := by decide +kernel
theorem d_Chk_init_34 : decode prog_2_method_1_code 34 = .ok (.iload_n 2, 1) := by decide +kernel
theorem d_Chk_init_35 : decode prog_2_method_1_code 35 = .ok (.invokestatic 17, 3) := by decide +kernel
theorem d_Chk_init_38 : decode prog_2_method_1_code 38 = .ok (.iastore, 1) := by decide +kernel
theorem d_Chk_init_39 : decode prog_2_method_1_code 39 = .ok (.iinc 2 1, 3) := by decide +kernel
theorem d_Chk_init_42 : decode prog_2_method_1_code 42 = .ok (.goto (-22), 3) := by decide +kernel
theorem d_Chk_init_45 : decode prog_2_method_1_code 45 = .ok (.return_, 1) := by decide +kernel
abbrev y_Chk_init : MethodName := ⟨"PicturePacker$Chunks", "<init>", "(LPicturePacker$Output;)V"⟩
def wp_Chk_init_20 (n : Nat → Nat) (q1 : Nat) (post : (Nat → Nat) × (Nat → Nat) × Int32 × (Nat → Int32) → Prop) : Nat → (Nat → Int32) → Int32 → Prop
  | 0 => fun _ _ => False
  | N + 1 => fun ct y2 => ((nI ((256 : Int32).toNatClampNeg) : Int32) ≤ y2 → (post (fun k => if k = 12 then q1 else 0, fun k => if k = 12 then (256 : Int32).toNatClampNeg else 0, 0, ct))) ∧ (¬ ((nI ((256 : Int32).toNatClampNeg) : Int32) ≤ y2) → (wp_Chk_eightSteps n y2 (fun r6 _ => vp_in y2 ((256 : Int32).toNatClampNeg) ∧ (∀ f8 : Nat → Int32, f8 = upd ct (y2 : Int32).toNatClampNeg r6 → (∀ z9 : Int32, z9 = (y2 + 1) → (wp_Chk_init_20 n q1 post N f8 z9))))))
def wp_Chk_init (n : Nat → Nat) (post : (Nat → Nat) × (Nat → Nat) × Int32 × (Nat → Int32) → Prop) : Prop := ¬ (256 : Int32) < 0 ∧ (256 : Int32).toNatClampNeg ≤ 256 ∧ ∀ q1 : Nat, (∃ N10 : Nat, wp_Chk_init_20 n q1 post N10 (fun _ => 0) 0)
set_option maxHeartbeats 2000000 in
set_option maxRecDepth 20000 in
theorem s_Chk_init_20 {l : Launch} {dC : Nat → ClassId} {dI : Nat → Nat → Nat} {cI : ClassId} {tb : Tbs} {a n : Nat → Nat} {p : Program} {e : Env} {s : State} {m : MethodId} {args : Array Value} {below : List Frame} {meth : Method} {c : Code} {A : Nat → Prop} (E : CallFix p m c prog_2_method_1_code 3 s args TBL "PicturePacker$Chunks") (hr : meth.sig.returnType = none) (hlk : meth.locks = false) {q1 : Nat} {post : (Nat → Nat) × (Nat → Nat) × Int32 × (Nat → Int32) → Prop} : ∀ (N : Nat) (ct : Nat → Int32) (y2 : Int32) (H : Heap) (locs : List Loc) (ls : Array Slot), Wl classes dC dI cI tb A s H locs [(a 4, .inr (4, [.ref (a 3), .ref q1, .int 0])), (q1, .inl (cI, (256 : Int32).toNatClampNeg, .inl ct))] → lv_has ls 3 [(0, .ref (a 4)), (2, .int y2)] → wp_Chk_init_20 n q1 post N ct y2 → W p l e ({ frames := 1, cells := 1, slots := 256, locals := 22 }) s m args below meth c H locs 1 256 (MQ below (va_Qv post (fun u => End0 classes dC dI cI A [(a 4, .inr (4, [.ref (a 3), .ref (u.1 12), .int u.2.2.1])), (u.1 12, .inl (cI, u.2.1 12, .inl u.2.2.2))]) A) args s 1 256 A) (F0 m 20 ls []) := by
  obtain ⟨hx, hb, hml, hown, hts⟩ := id E
  intro N
  induction N with
  | zero =>
    intro _ _ H locs ls hw hl h
    exact absurd h id
  | succ N ih =>
    intro ct y2 H locs ls hw hl h
    unfold wp_Chk_init_20 at h
    refine lv_iload_n hx hb d_Chk_init_20 rfl (lv_at hl 1 rfl) ?_
    refine lv_aload_n hx hb d_Chk_init_21 rfl (lv_at hl 0 rfl) ?_
    refine kget (v := .ref q1) (T := F_Chk) E hw in_Chk rfl 0 1 rfl (by decide) tw145 rfl d_Chk_init_22 ?_
    refine kalen E hw 1 rfl d_Chk_init_25 ?_
    refine lv_icmp_ge (tgt := 45) hx hb d_Chk_init_26 (by decide) (fun c4 => ?_) (fun c4 => ?_)
    · have h := h.1 c4
      exact retV (out := fun u => [(a 4, .inr (4, [.ref (a 3), .ref (u.1 12), .int u.2.2.1])), (u.1 12, .inl (cI, u.2.1 12, .inl u.2.2.2))]) (u := (fun k => if k = 12 then q1 else 0, fun k => if k = 12 then (256 : Int32).toNatClampNeg else 0, 0, ct)) E hr hlk hw h d_Chk_init_45
    · have h := h.2 c4
      refine lv_aload_n hx hb d_Chk_init_29 rfl (lv_at hl 0 rfl) ?_
      refine kget (v := .ref q1) (T := F_Chk) E hw in_Chk rfl 0 1 rfl (by decide) tw145 rfl d_Chk_init_30 ?_
      refine lv_iload_n hx hb d_Chk_init_33 rfl (lv_at hl 1 rfl) ?_
      refine lv_iload_n hx hb d_Chk_init_34 rfl (lv_at hl 1 rfl) ?_
      refine kSi (y := y_Chk_eightSteps) (ws' := fun _ => [(a 4, .inr (4, [.ref (a 3), .ref q1, .int 0])), (q1, .inl (cI, (256 : Int32).toNatClampNeg, .inl ct))]) (wr := [(a 4, .inr (4, [.ref (a 3), .ref q1, .int 0])), (q1, .inl (cI, (256 : Int32).toNatClampNeg, .inl ct))]) (As := [.int y2]) (rest := [.int y2, .ref q1]) E hw (c_Chk_eightSteps (l := l) (dC := dC) (dI := dI) (cI := cI) (tb := tb) (a := a) (n := n)  (x0 := y2) h) tw140 tw141 tw39 tw142 1 (by decide) ⟨Nat.le_of_ble_eq_true rfl, Nat.le_of_ble_eq_true rfl⟩ ⟨Nat.le_of_ble_eq_true rfl, Nat.le_of_ble_eq_true rfl⟩ ⟨rfl, rfl⟩ [] [0, 1] [0, 1] rfl rfl rfl rfl (by decide) rfl (fun _ => rfl) hl.1 rfl rfl (Nat.le_of_ble_eq_true rfl) d_Chk_init_35 (fun r6 u5 H locs h hw => ?_)
      obtain ⟨b7, h⟩ := h
      obtain ⟨f8, ef8⟩ : ∃ z : Nat → Int32, z = upd ct (y2 : Int32).toNatClampNeg r6 := ⟨_, rfl⟩
      have h := h f8 ef8
      refine kast (ws' := [(a 4, .inr (4, [.ref (a 3), .ref q1, .int 0])), (q1, .inl (cI, (256 : Int32).toNatClampNeg, .inl f8))]) E hw 1 rfl b7 (by rw [ef8]; rfl) d_Chk_init_38 (fun H locs hw => ?_)
      obtain ⟨z9, ez9⟩ : ∃ z : Int32, z = y2 + 1 := ⟨_, rfl⟩
      have h := h z9 ez9
      refine lv_iinc (v := z9) (lv' := [(2, .int z9), (0, .ref (a 4))]) hx hb d_Chk_init_39 hl (k := 1) rfl (by rw [ez9]; exact congrArg (y2 + ·) (by decide)) (by decide) rfl (fun ls hl => ?_)
      refine lv_goto (tgt := 20) hx hb d_Chk_init_42 (by decide) ?_
      exact ih f8 z9 _ _ ls hw (lv_sub hl [1, 0] rfl) h
set_option maxHeartbeats 2000000 in
set_option maxRecDepth 20000 in
theorem c_Chk_init {l : Launch} {dC : Nat → ClassId} {dI : Nat → Nat → Nat} {cI : ClassId} {tb : Tbs} {a n : Nat → Nat} {post : (Nat → Nat) × (Nat → Nat) × Int32 × (Nat → Int32) → Prop} (h : wp_Chk_init n post) : CtV classes dC dI cI tb l y_Chk_init prog_2_method_1_code 3 ({ frames := 1, cells := 1, slots := 256, locals := 22 }) [.ref (a 4), .ref (a 3)] [(a 4, .inr (4, [.null, .null, .int 0]))] ((Nat → Nat) × (Nat → Nat) × Int32 × (Nat → Int32)) (fun u => [(a 4, .inr (4, [.ref (a 3), .ref (u.1 12), .int u.2.2.1])), (u.1 12, .inl (cI, u.2.1 12, .inl u.2.2.2))]) post := by
  refine startV (by decide) (Nat.le_of_ble_eq_true rfl) ?_
  intro p e s m below meth c ls E hr hlk hnm hl hw
  have hl : lv_has ls 3 [(0, .ref (a 4)), (1, .ref (a 3))] := hl
  generalize va_A [(a 4, .inr (4, [.null, .null, .int 0]))] s.heap.size = A at hw ⊢
  obtain ⟨hx, hb, hml, hown, hts⟩ := id E
  unfold wp_Chk_init at h
  refine lv_aload_n hx hb d_Chk_init_0 rfl (lv_at hl 0 rfl) ?_
  refine kobj E hl.1 tw139 tw49 tw50 (Nat.le_of_ble_eq_true rfl) (Nat.le_of_ble_eq_true rfl) d_Chk_init_1 ?_
  refine lv_aload_n hx hb d_Chk_init_4 rfl (lv_at hl 0 rfl) ?_
  refine lv_aload_n hx hb d_Chk_init_5 rfl (lv_at hl 1 rfl) ?_
  refine kputF (v := .ref (a 3)) (ty := .object "PicturePacker$Output") (T := F_Chk) (ws' := [(a 4, .inr (4, [.ref (a 3), .null, .int 0]))]) E hw in_Chk t_Chk t_Chk_ok n_Chk rfl 0 0 rfl (by decide) tw144 rfl hnm rfl rfl rfl rfl (Nat.le_of_ble_eq_true rfl) rfl d_Chk_init_6 (fun H locs hw => ?_)
  refine lv_aload_n hx hb d_Chk_init_9 rfl (lv_at hl 0 rfl) ?_
  refine lv_sipush (v := 256) hx hb d_Chk_init_10 (by decide) ?_
  obtain ⟨b2, b3, h⟩ := h
  refine knewa 256 E hw tw83 b2 b3 (by decide) (Nat.le_of_ble_eq_true rfl) (Nat.le_of_ble_eq_true rfl) d_Chk_init_13 (fun q1 H hw => ?_)
  have h := h q1
  have hw : Wl classes dC dI cI tb A s H _ [(a 4, .inr (4, [.ref (a 3), .null, .int 0])), (q1, .inl (cI, (256 : Int32).toNatClampNeg, .inl (fun _ => 0)))] := hw
  refine kputF (v := .ref q1) (ty := .array .int) (T := F_Chk) (ws' := [(a 4, .inr (4, [.ref (a 3), .ref q1, .int 0])), (q1, .inl (cI, (256 : Int32).toNatClampNeg, .inl (fun _ => 0)))]) E hw in_Chk t_Chk t_Chk_ok n_Chk rfl 0 1 rfl (by decide) tw145 rfl hnm rfl rfl rfl rfl (Nat.le_of_ble_eq_true rfl) rfl d_Chk_init_15 (fun H locs hw => ?_)
  refine lv_iconst (v := 0) hx hb d_Chk_init_18 (by decide) ?_
  refine lv_istore_n (lv' := [(2, .int 0), (0, .ref (a 4)), (1, .ref (a 3))]) hx hb d_Chk_init_19 rfl hl (by decide) rfl (fun ls hl => ?_)
  obtain ⟨N10, h⟩ := h
  exact s_Chk_init_20 (a := a) (n := n) (tb := tb) E hr hlk  N10 (fun _ => 0) 0 _ _ ls hw (lv_sub hl [1, 0] rfl) h
-- PicturePacker.<init>(II)V
theorem d_PP_init_0 : decode prog_1_method_1_code 0 = .ok (.aload_n 0, 1) := by decide +kernel
theorem d_PP_init_1 : decode prog_1_method_1_code 1 = .ok (.invokespecial 1, 3) := by decide +kernel
theorem d_PP_init_4 : decode prog_1_method_1_code 4 = .ok (.aload_n 0, 1) := by decide +kernel
theorem d_PP_init_5 : decode prog_1_method_1_code 5 = .ok (.new 7, 3) := by decide +kernel
theorem d_PP_init_8 : decode prog_1_method_1_code 8 = .ok (.dup, 1) := by decide +kernel
theorem d_PP_init_9 : decode prog_1_method_1_code 9 = .ok (.iload_n 1, 1) := by decide +kernel
theorem d_PP_init_10 : decode prog_1_method_1_code 10 = .ok (.invokestatic 9, 3) := by decide +kernel
theorem d_PP_init_13 : decode prog_1_method_1_code 13 = .ok (.iload_n 2, 1) := by decide +kernel
theorem d_PP_init_14 : decode prog_1_method_1_code 14 = .ok (.invokestatic 9, 3) := by decide +kernel
theorem d_PP_init_17 : decode prog_1_method_1_code 17 = .ok (.invokespecial 15, 3) := by decide +kernel
theorem d_PP_init_20 : decode prog_1_method_1_code 20 = .ok (.putfield 18, 3) := by decide +kernel
theorem d_PP_init_23 : decode prog_1_method_1_code 23 = .ok (.aload_n 0, 1) := by decide +kernel
theorem d_PP_init_24 : decode prog_1_method_1_code 24 = .ok (.new 22, 3) := by decide +kernel
theorem d_PP_init_27 : decode prog_1_method_1_code 27 = .ok (.dup, 1) := by decide +kernel
theorem d_PP_init_28 : decode prog_1_method_1_code 28 = .ok (.aload_n 0, 1) := by decide +kernel
theorem d_PP_init_29 : decode prog_1_method_1_code 29 = .ok (.getfield 18, 3) := by decide +kernel
theorem d_PP_init_32 : decode prog_1_method_1_code 32 = .ok (.invokespecial 24, 3) := by decide +kernel
theorem d_PP_init_35 : decode prog_1_method_1_code 35 = .ok (.putfield 27, 3) := by decide +kernel
theorem d_PP_init_38 : decode prog_1_method_1_code 38 = .ok (.aload_n 0, 1) := by decide +kernel
theorem d_PP_init_39 : decode prog_1_method_1_code 39 = .ok (.new 31, 3) := by decide +kernel
theorem d_PP_init_42 : decode prog_1_method_1_code 42 = .ok (.dup, 1) := by decide +kernel
theorem d_PP_init_43 : decode prog_1_method_1_code 43 = .ok (.aload_n 0, 1) := by decide +kernel
theorem d_PP_init_44 : decode prog_1_method_1_code 44 = .ok (.getfield 27, 3) := by decide +kernel
theorem d_PP_init_47 : decode prog_1_method_1_code 47 = .ok (.getfield 33, 3) := by decide +kernel
theorem d_PP_init_50 : decode prog_1_method_1_code 50 = .ok (.arraylength, 1) := by decide +kernel
theorem d_PP_init_51 : decode prog_1_method_1_code 51 = .ok (.invokestatic 37, 3) := by decide +kernel
theorem d_PP_init_54 : decode prog_1_method_1_code 54 = .ok (.invokespecial 40, 3) := by decide +kernel
theorem d_PP_init_57 : decode prog_1_method_1_code 57 = .ok (.putfield 43, 3) := by decide +kernel
theorem d_PP_init_60 : decode prog_1_method_1_code 60 = .ok (.aload_n 0, 1) := by decide +kernel
theorem d_PP_init_61 : decode prog_1_method_1_code 61 = .ok (.new 47, 3) := by decide +kernel
theorem d_PP_init_64 : decode prog_1_method_1_code 64 = .ok (.dup, 1) := by decide +kernel
theorem d_PP_init_65 : decode prog_1_method_1_code 65 = .ok (.aload_n 0, 1) := by decide +kernel
theorem d_PP_init_66 : decode prog_1_method_1_code 66 = .ok (.getfield 43, 3) := by decide +kernel
theorem d_PP_init_69 : decode prog_1_method_1_code 69 = .ok (.invokespecial 49, 3) := by decide +kernel
theorem d_PP_init_72 : decode prog_1_method_1_code 72 = .ok (.putfield 52, 3) := by decide +kernel
theorem d_PP_init_75 : decode prog_1_method_1_code 75 = .ok (.aload_n 0, 1) := by decide +kernel
theorem d_PP_init_76 : decode prog_1_method_1_code 76 = .ok (.new 56, 3) := by decide +kernel
theorem d_PP_init_79 : decode prog_1_method_1_code 79 = .ok (.dup, 1) := by decide +kernel
theorem d_PP_init_80 : decode prog_1_method_1_code 80 = .ok (.aload_n 0, 1) := by decide +kernel
theorem d_PP_init_81 : decode prog_1_method_1_code 81 = .ok (.getfield 27, 3) := by decide +kernel
theorem d_PP_init_84 : decode prog_1_method_1_code 84 = .ok (.getfield 33, 3) := by decide +kernel
theorem d_PP_init_87 : decode prog_1_method_1_code 87 = .ok (.aload_n 0, 1) := by decide +kernel
theorem d_PP_init_88 : decode prog_1_method_1_code 88 = .ok (.getfield 43, 3) := by decide +kernel
theorem d_PP_init_91 : decode prog_1_method_1_code 91 = .ok (.invokespecial 58, 3) := by decide +kernel
theorem d_PP_init_94 : decode prog_1_method_1_code 94 = .ok (.putfield 61, 3) := by decide +kernel
theorem d_PP_init_97 : decode prog_1_method_1_code 97 = .ok (.return_, 1) := by decide +kernel
abbrev y_PP_init : MethodName := ⟨"PicturePacker", "<init>", "(II)V"⟩
def wp_PP_init (n : Nat → Nat) (x1 : Int32) (x2 : Int32) (post : (Nat → Nat) × (Nat → Nat) × Int32 × Int32 × Int32 × Int32 × Int32 × Int32 × Int32 × Int32 × Int32 × Int32 × Int32 × Int32 × Int32 × Int32 × (Nat → Int32) × (Nat → Int32) × (Nat → Int32) × (Nat → Int32) × (Nat → Int32) × (Nat → Int32) × (Nat → Int32) → Prop) : Prop := ∀ q1 : Nat, (wp_PP_side n x1 (fun r3 _ => wp_PP_side n x2 (fun r5 _ => wp_Pic_init (fun k => 0) r3 r5 (fun u6 => ∀ q8 : Nat, (wp_Rows_init (fun k => if k = 8 then u6.2.1 8 else 0) u6.2.2.1 u6.2.2.2.1 (fun u9 => ∀ q11 : Nat, (wp_Out_roomFor n (nI (u9.2.1 9)) (fun r13 _ => wp_Out_init (fun k => 0) r13 (fun u14 => ∀ q16 : Nat, (wp_Chk_init (fun k => 0) (fun u17 => ∀ q19 : Nat, (wp_Pak_init (fun k => if k = 9 then u9.2.1 9 else 0) (fun u20 => post (fun k => if k = 1 then q1 else if k = 8 then u6.1 8 else if k = 2 then q8 else if k = 9 then u9.1 9 else if k = 10 then u9.1 10 else if k = 3 then q11 else if k = 11 then u14.1 11 else if k = 4 then q16 else if k = 12 then u17.1 12 else if k = 5 then q19 else if k = 6 then u20.1 6 else if k = 13 then u20.1 13 else if k = 14 then u20.1 14 else 0, fun k => if k = 8 then u6.2.1 8 else if k = 9 then u9.2.1 9 else if k = 10 then u9.2.1 10 else if k = 11 then u14.2.1 11 else if k = 12 then u17.2.1 12 else if k = 13 then u20.2.1 13 else if k = 14 then u20.2.1 14 else 0, u6.2.2.1, u6.2.2.2.1, u6.2.2.2.2.1, u9.2.2.1, u14.2.2.1, u14.2.2.2.1, u14.2.2.2.2.1, u17.2.2.1, u20.2.2.1, u20.2.2.2.1, u20.2.2.2.2.1, u20.2.2.2.2.2.1, u20.2.2.2.2.2.2.1, u20.2.2.2.2.2.2.2.1, u6.2.2.2.2.2, u9.2.2.2.1, u9.2.2.2.2, u14.2.2.2.2.2, u17.2.2.2, u20.2.2.2.2.2.2.2.2.1, u20.2.2.2.2.2.2.2.2.2))))))))))))))
set_option maxHeartbeats 2000000 in
set_option maxRecDepth 20000 in
theorem c_PP_init {l : Launch} {dC : Nat → ClassId} {dI : Nat → Nat → Nat} {cI : ClassId} {tb : Tbs} {a n : Nat → Nat} {x1 : Int32} {x2 : Int32} {post : (Nat → Nat) × (Nat → Nat) × Int32 × Int32 × Int32 × Int32 × Int32 × Int32 × Int32 × Int32 × Int32 × Int32 × Int32 × Int32 × Int32 × Int32 × (Nat → Int32) × (Nat → Int32) × (Nat → Int32) × (Nat → Int32) × (Nat → Int32) × (Nat → Int32) × (Nat → Int32) → Prop} (h : wp_PP_init n x1 x2 post) : CtV classes dC dI cI tb l y_PP_init prog_1_method_1_code 3 ({ frames := 3, cells := 13, slots := 30373, locals := 64 }) [.ref (a 0), .int x1, .int x2] [(a 0, .inr (0, [.null, .null, .null, .null, .null]))] ((Nat → Nat) × (Nat → Nat) × Int32 × Int32 × Int32 × Int32 × Int32 × Int32 × Int32 × Int32 × Int32 × Int32 × Int32 × Int32 × Int32 × Int32 × (Nat → Int32) × (Nat → Int32) × (Nat → Int32) × (Nat → Int32) × (Nat → Int32) × (Nat → Int32) × (Nat → Int32)) (fun u => [(a 0, .inr (0, [.ref (u.1 1), .ref (u.1 2), .ref (u.1 3), .ref (u.1 4), .ref (u.1 5)])), (u.1 1, .inr (1, [.int u.2.2.1, .int u.2.2.2.1, .int u.2.2.2.2.1, .ref (u.1 8)])), (u.1 8, .inl (cI, u.2.1 8, .inl u.2.2.2.2.2.2.2.2.2.2.2.2.2.2.2.2.1)), (u.1 2, .inr (2, [.ref (u.1 9), .ref (u.1 10), .ref (u.1 1), .int u.2.2.2.2.2.1])), (u.1 9, .inl (cI, u.2.1 9, .inl u.2.2.2.2.2.2.2.2.2.2.2.2.2.2.2.2.2.1)), (u.1 10, .inl (cI, u.2.1 10, .inl u.2.2.2.2.2.2.2.2.2.2.2.2.2.2.2.2.2.2.1)), (u.1 3, .inr (3, [.ref (u.1 11), .int u.2.2.2.2.2.2.1, .int u.2.2.2.2.2.2.2.1, .int u.2.2.2.2.2.2.2.2.1])), (u.1 11, .inl (cI, u.2.1 11, .inl u.2.2.2.2.2.2.2.2.2.2.2.2.2.2.2.2.2.2.2.1)), (u.1 4, .inr (4, [.ref (u.1 3), .ref (u.1 12), .int u.2.2.2.2.2.2.2.2.2.1])), (u.1 12, .inl (cI, u.2.1 12, .inl u.2.2.2.2.2.2.2.2.2.2.2.2.2.2.2.2.2.2.2.2.1)), (u.1 5, .inr (5, [.ref (u.1 9), .ref (u.1 3), .ref (u.1 6), .int u.2.2.2.2.2.2.2.2.2.2.1, .int u.2.2.2.2.2.2.2.2.2.2.2.1, .int u.2.2.2.2.2.2.2.2.2.2.2.2.1])), (u.1 6, .inr (6, [.ref (u.1 9), .ref (u.1 13), .ref (u.1 14), .int u.2.2.2.2.2.2.2.2.2.2.2.2.2.1, .int u.2.2.2.2.2.2.2.2.2.2.2.2.2.2.1, .int u.2.2.2.2.2.2.2.2.2.2.2.2.2.2.2.1])), (u.1 13, .inl (cI, u.2.1 13, .inl u.2.2.2.2.2.2.2.2.2.2.2.2.2.2.2.2.2.2.2.2.2.1)), (u.1 14, .inl (cI, u.2.1 14, .inl u.2.2.2.2.2.2.2.2.2.2.2.2.2.2.2.2.2.2.2.2.2.2))]) post := by
  refine startV (by decide) (Nat.le_of_ble_eq_true rfl) ?_
  intro p e s m below meth c ls E hr hlk hnm hl hw
  have hl : lv_has ls 3 [(0, .ref (a 0)), (1, .int x1), (2, .int x2)] := hl
  generalize va_A [(a 0, .inr (0, [.null, .null, .null, .null, .null]))] s.heap.size = A at hw ⊢
  obtain ⟨hx, hb, hml, hown, hts⟩ := id E
  unfold wp_PP_init at h
  refine lv_aload_n hx hb d_PP_init_0 rfl (lv_at hl 0 rfl) ?_
  refine kobj E hl.1 tw48 tw49 tw50 (Nat.le_of_ble_eq_true rfl) (Nat.le_of_ble_eq_true rfl) d_PP_init_1 ?_
  refine lv_aload_n hx hb d_PP_init_4 rfl (lv_at hl 0 rfl) ?_
  refine knew (ci := 1) (fs := [.int 0, .int 0, .int 0, .null]) (C := "PicturePacker$Picture") (T := F_Pic) (N := 4) E hw in_Pic t_Pic t_Pic_ok rfl tw51 tw52 tw34 (by intro j hj; rcases (show j = 0 ∨ j = 1 ∨ j = 2 ∨ j = 3 by omega) with rfl | rfl | rfl | rfl <;> rfl) (Nat.le_of_ble_eq_true rfl) (Nat.le_of_ble_eq_true rfl) d_PP_init_5 (fun q1 H hw => ?_)
  have h := h q1
  have hw : Wl classes dC dI cI tb A s H _ [(a 0, .inr (0, [.null, .null, .null, .null, .null])), (q1, .inr (1, [.int 0, .int 0, .int 0, .null]))] := hw
  refine lv_dup hx hb d_PP_init_8 rfl ?_
  refine lv_iload_n hx hb d_PP_init_9 rfl (lv_at hl 1 rfl) ?_
  refine kSi (y := y_PP_side) (ws' := fun _ => [(a 0, .inr (0, [.null, .null, .null, .null, .null])), (q1, .inr (1, [.int 0, .int 0, .int 0, .null]))]) (wr := [(a 0, .inr (0, [.null, .null, .null, .null, .null])), (q1, .inr (1, [.int 0, .int 0, .int 0, .null]))]) (As := [.int x1]) (rest := [.ref q1, .ref q1, .ref (a 0)]) E hw (c_PP_side (l := l) (dC := dC) (dI := dI) (cI := cI) (tb := tb) (a := a) (n := n)  (x0 := x1) h) tw53 tw54 tw33 tw55 1 (by decide) ⟨Nat.le_of_ble_eq_true rfl, Nat.le_of_ble_eq_true rfl⟩ ⟨Nat.le_of_ble_eq_true rfl, Nat.le_of_ble_eq_true rfl⟩ ⟨rfl, rfl⟩ [] [0, 1] [0, 1] rfl rfl rfl rfl (by decide) rfl (fun _ => rfl) hl.1 rfl rfl (Nat.le_of_ble_eq_true rfl) d_PP_init_10 (fun r3 u2 H locs h hw => ?_)
  refine lv_iload_n hx hb d_PP_init_13 rfl (lv_at hl 2 rfl) ?_
  refine kSi (y := y_PP_side) (ws' := fun _ => [(a 0, .inr (0, [.null, .null, .null, .null, .null])), (q1, .inr (1, [.int 0, .int 0, .int 0, .null]))]) (wr := [(a 0, .inr (0, [.null, .null, .null, .null, .null])), (q1, .inr (1, [.int 0, .int 0, .int 0, .null]))]) (As := [.int x2]) (rest := [.int r3, .ref q1, .ref q1, .ref (a 0)]) E hw (c_PP_side (l := l) (dC := dC) (dI := dI) (cI := cI) (tb := tb) (a := a) (n := n)  (x0 := x2) h) tw53 tw54 tw33 tw55 1 (by decide) ⟨Nat.le_of_ble_eq_true rfl, Nat.le_of_ble_eq_true rfl⟩ ⟨Nat.le_of_ble_eq_true rfl, Nat.le_of_ble_eq_true rfl⟩ ⟨rfl, rfl⟩ [] [0, 1] [0, 1] rfl rfl rfl rfl (by decide) rfl (fun _ => rfl) hl.1 rfl rfl (Nat.le_of_ble_eq_true rfl) d_PP_init_14 (fun r5 u4 H locs h hw => ?_)
  refine kIv (y := y_Pic_init) (ws' := fun u6 => [(a 0, .inr (0, [.null, .null, .null, .null, .null])), (q1, .inr (1, [.int u6.2.2.1, .int u6.2.2.2.1, .int u6.2.2.2.2.1, .ref (u6.1 8)])), (u6.1 8, .inl (cI, u6.2.1 8, .inl u6.2.2.2.2.2))]) (wr := [(a 0, .inr (0, [.null, .null, .null, .null, .null]))]) (As := [.int r3, .int r5]) (rest := [.ref q1, .ref (a 0)]) E hw (c_Pic_init (l := l) (dC := dC) (dI := dI) (cI := cI) (tb := tb) (a := fun k => if k = 1 then q1 else 0) (n := fun k => 0)  (x1 := r3) (x2 := r5) h) tw62 tw63 tw34 tw64 rfl 2 (by decide) ⟨Nat.le_of_ble_eq_true rfl, Nat.le_of_ble_eq_true rfl⟩ ⟨Nat.le_of_ble_eq_true rfl, Nat.le_of_ble_eq_true rfl⟩ ⟨rfl, rfl⟩ [1] [0] [0, 1, 2] rfl rfl rfl rfl (by decide) rfl (fun _ => rfl) hl.1 rfl rfl (Nat.le_of_ble_eq_true rfl) d_PP_init_17 (fun u6 H locs h hw => ?_)
  refine kputF (v := .ref q1) (ty := .object "PicturePacker$Picture") (T := F_PP) (ws' := [(a 0, .inr (0, [.ref q1, .null, .null, .null, .null])), (q1, .inr (1, [.int u6.2.2.1, .int u6.2.2.2.1, .int u6.2.2.2.2.1, .ref (u6.1 8)])), (u6.1 8, .inl (cI, u6.2.1 8, .inl u6.2.2.2.2.2))]) E hw in_PP t_PP t_PP_ok n_PP rfl 0 0 rfl (by decide) tw209 rfl hnm rfl rfl rfl rfl (Nat.le_of_ble_eq_true rfl) rfl d_PP_init_20 (fun H locs hw => ?_)
  refine lv_aload_n hx hb d_PP_init_23 rfl (lv_at hl 0 rfl) ?_
  refine knew (ci := 2) (fs := [.null, .null, .null, .int 0]) (C := "PicturePacker$Rows") (T := F_Rows) (N := 4) E hw in_Rows t_Rows t_Rows_ok rfl tw84 tw85 tw36 (by intro j hj; rcases (show j = 0 ∨ j = 1 ∨ j = 2 ∨ j = 3 by omega) with rfl | rfl | rfl | rfl <;> rfl) (Nat.le_of_ble_eq_true rfl) (Nat.le_of_ble_eq_true rfl) d_PP_init_24 (fun q8 H hw => ?_)
  have h := h q8
  have hw : Wl classes dC dI cI tb A s H _ [(a 0, .inr (0, [.ref q1, .null, .null, .null, .null])), (q1, .inr (1, [.int u6.2.2.1, .int u6.2.2.2.1, .int u6.2.2.2.2.1, .ref (u6.1 8)])), (u6.1 8, .inl (cI, u6.2.1 8, .inl u6.2.2.2.2.2)), (q8, .inr (2, [.null, .null, .null, .int 0]))] := hw
  refine lv_dup hx hb d_PP_init_27 rfl ?_
  refine lv_aload_n hx hb d_PP_init_28 rfl (lv_at hl 0 rfl) ?_
  refine kget (v := .ref q1) (T := F_PP) E hw in_PP rfl 0 0 rfl (by decide) tw209 rfl d_PP_init_29 ?_
  refine kIv (y := y_Rows_init) (ws' := fun u9 => [(a 0, .inr (0, [.ref q1, .null, .null, .null, .null])), (q1, .inr (1, [.int u6.2.2.1, .int u6.2.2.2.1, .int u6.2.2.2.2.1, .ref (u6.1 8)])), (u6.1 8, .inl (cI, u6.2.1 8, .inl u6.2.2.2.2.2)), (q8, .inr (2, [.ref (u9.1 9), .ref (u9.1 10), .ref q1, .int u9.2.2.1])), (u9.1 9, .inl (cI, u9.2.1 9, .inl u9.2.2.2.1)), (u9.1 10, .inl (cI, u9.2.1 10, .inl u9.2.2.2.2))]) (wr := [(a 0, .inr (0, [.ref q1, .null, .null, .null, .null])), (u6.1 8, .inl (cI, u6.2.1 8, .inl u6.2.2.2.2.2))]) (As := [.ref q1]) (rest := [.ref q8, .ref (a 0)]) E hw (c_Rows_init (l := l) (dC := dC) (dI := dI) (cI := cI) (tb := tb) (a := fun k => if k = 1 then q1 else if k = 2 then q8 else if k = 8 then u6.1 8 else 0) (n := fun k => if k = 8 then u6.2.1 8 else 0) (Pic_width := u6.2.2.1) (Pic_height := u6.2.2.2.1) (Pic_stride := u6.2.2.2.2.1)  h) tw86 tw87 tw36 tw88 rfl 1 (by decide) ⟨Nat.le_of_ble_eq_true rfl, Nat.le_of_ble_eq_true rfl⟩ ⟨Nat.le_of_ble_eq_true rfl, Nat.le_of_ble_eq_true rfl⟩ ⟨rfl, rfl⟩ [3, 1] [0, 2] [0, 3, 1, 2, 4, 5] rfl rfl rfl rfl (by decide) rfl (fun _ => rfl) hl.1 rfl rfl (Nat.le_of_ble_eq_true rfl) d_PP_init_32 (fun u9 H locs h hw => ?_)
  refine kputF (v := .ref q8) (ty := .object "PicturePacker$Rows") (T := F_PP) (ws' := [(a 0, .inr (0, [.ref q1, .ref q8, .null, .null, .null])), (q1, .inr (1, [.int u6.2.2.1, .int u6.2.2.2.1, .int u6.2.2.2.2.1, .ref (u6.1 8)])), (u6.1 8, .inl (cI, u6.2.1 8, .inl u6.2.2.2.2.2)), (q8, .inr (2, [.ref (u9.1 9), .ref (u9.1 10), .ref q1, .int u9.2.2.1])), (u9.1 9, .inl (cI, u9.2.1 9, .inl u9.2.2.2.1)), (u9.1 10, .inl (cI, u9.2.1 10, .inl u9.2.2.2.2))]) E hw in_PP t_PP t_PP_ok n_PP rfl 0 1 rfl (by decide) tw210 rfl hnm rfl rfl rfl rfl (Nat.le_of_ble_eq_true rfl) rfl d_PP_init_35 (fun H locs hw => ?_)
  refine lv_aload_n hx hb d_PP_init_38 rfl (lv_at hl 0 rfl) ?_
  refine knew (ci := 3) (fs := [.null, .int 0, .int 0, .int 0]) (C := "PicturePacker$Output") (T := F_Out) (N := 4) E hw in_Out t_Out t_Out_ok rfl tw108 tw109 tw38 (by intro j hj; rcases (show j = 0 ∨ j = 1 ∨ j = 2 ∨ j = 3 by omega) with rfl | rfl | rfl | rfl <;> rfl) (Nat.le_of_ble_eq_true rfl) (Nat.le_of_ble_eq_true rfl) d_PP_init_39 (fun q11 H hw => ?_)
  have h := h q11
  have hw : Wl classes dC dI cI tb A s H _ [(a 0, .inr (0, [.ref q1, .ref q8, .null, .null, .null])), (q1, .inr (1, [.int u6.2.2.1, .int u6.2.2.2.1, .int u6.2.2.2.2.1, .ref (u6.1 8)])), (u6.1 8, .inl (cI, u6.2.1 8, .inl u6.2.2.2.2.2)), (q8, .inr (2, [.ref (u9.1 9), .ref (u9.1 10), .ref q1, .int u9.2.2.1])), (u9.1 9, .inl (cI, u9.2.1 9, .inl u9.2.2.2.1)), (u9.1 10, .inl (cI, u9.2.1 10, .inl u9.2.2.2.2)), (q11, .inr (3, [.null, .int 0, .int 0, .int 0]))] := hw
  refine lv_dup hx hb d_PP_init_42 rfl ?_
  refine lv_aload_n hx hb d_PP_init_43 rfl (lv_at hl 0 rfl) ?_
  refine kget (v := .ref q8) (T := F_PP) E hw in_PP rfl 0 1 rfl (by decide) tw210 rfl d_PP_init_44 ?_
  refine kget (v := .ref (u9.1 9)) (T := F_Rows) E hw in_Rows rfl 3 0 rfl (by decide) tw94 rfl d_PP_init_47 ?_
  refine kalen E hw 4 rfl d_PP_init_50 ?_
  refine kSi (y := y_Out_roomFor) (ws' := fun _ => [(a 0, .inr (0, [.ref q1, .ref q8, .null, .null, .null])), (q1, .inr (1, [.int u6.2.2.1, .int u6.2.2.2.1, .int u6.2.2.2.2.1, .ref (u6.1 8)])), (u6.1 8, .inl (cI, u6.2.1 8, .inl u6.2.2.2.2.2)), (q8, .inr (2, [.ref (u9.1 9), .ref (u9.1 10), .ref q1, .int u9.2.2.1])), (u9.1 9, .inl (cI, u9.2.1 9, .inl u9.2.2.2.1)), (u9.1 10, .inl (cI, u9.2.1 10, .inl u9.2.2.2.2)), (q11, .inr (3, [.null, .int 0, .int 0, .int 0]))]) (wr := [(a 0, .inr (0, [.ref q1, .ref q8, .null, .null, .null])), (q1, .inr (1, [.int u6.2.2.1, .int u6.2.2.2.1, .int u6.2.2.2.2.1, .ref (u6.1 8)])), (u6.1 8, .inl (cI, u6.2.1 8, .inl u6.2.2.2.2.2)), (q8, .inr (2, [.ref (u9.1 9), .ref (u9.1 10), .ref q1, .int u9.2.2.1])), (u9.1 9, .inl (cI, u9.2.1 9, .inl u9.2.2.2.1)), (u9.1 10, .inl (cI, u9.2.1 10, .inl u9.2.2.2.2)), (q11, .inr (3, [.null, .int 0, .int 0, .int 0]))]) (As := [.int (nI (u9.2.1 9))]) (rest := [.ref q11, .ref q11, .ref (a 0)]) E hw (c_Out_roomFor (l := l) (dC := dC) (dI := dI) (cI := cI) (tb := tb) (a := a) (n := n)  (x0 := nI (u9.2.1 9)) h) tw110 tw111 tw38 tw112 1 (by decide) ⟨Nat.le_of_ble_eq_true rfl, Nat.le_of_ble_eq_true rfl⟩ ⟨Nat.le_of_ble_eq_true rfl, Nat.le_of_ble_eq_true rfl⟩ ⟨rfl, rfl⟩ [] [0, 1, 2, 3, 4, 5, 6] [0, 1, 2, 3, 4, 5, 6] rfl rfl rfl rfl (by decide) rfl (fun _ => rfl) hl.1 rfl rfl (Nat.le_of_ble_eq_true rfl) d_PP_init_51 (fun r13 u12 H locs h hw => ?_)
  refine kIv (y := y_Out_init) (ws' := fun u14 => [(a 0, .inr (0, [.ref q1, .ref q8, .null, .null, .null])), (q1, .inr (1, [.int u6.2.2.1, .int u6.2.2.2.1, .int u6.2.2.2.2.1, .ref (u6.1 8)])), (u6.1 8, .inl (cI, u6.2.1 8, .inl u6.2.2.2.2.2)), (q8, .inr (2, [.ref (u9.1 9), .ref (u9.1 10), .ref q1, .int u9.2.2.1])), (u9.1 9, .inl (cI, u9.2.1 9, .inl u9.2.2.2.1)), (u9.1 10, .inl (cI, u9.2.1 10, .inl u9.2.2.2.2)), (q11, .inr (3, [.ref (u14.1 11), .int u14.2.2.1, .int u14.2.2.2.1, .int u14.2.2.2.2.1])), (u14.1 11, .inl (cI, u14.2.1 11, .inl u14.2.2.2.2.2))]) (wr := [(a 0, .inr (0, [.ref q1, .ref q8, .null, .null, .null])), (q1, .inr (1, [.int u6.2.2.1, .int u6.2.2.2.1, .int u6.2.2.2.2.1, .ref (u6.1 8)])), (u6.1 8, .inl (cI, u6.2.1 8, .inl u6.2.2.2.2.2)), (q8, .inr (2, [.ref (u9.1 9), .ref (u9.1 10), .ref q1, .int u9.2.2.1])), (u9.1 9, .inl (cI, u9.2.1 9, .inl u9.2.2.2.1)), (u9.1 10, .inl (cI, u9.2.1 10, .inl u9.2.2.2.2))]) (As := [.int r13]) (rest := [.ref q11, .ref (a 0)]) E hw (c_Out_init (l := l) (dC := dC) (dI := dI) (cI := cI) (tb := tb) (a := fun k => if k = 3 then q11 else 0) (n := fun k => 0)  (x1 := r13) h) tw113 tw114 tw38 tw115 rfl 1 (by decide) ⟨Nat.le_of_ble_eq_true rfl, Nat.le_of_ble_eq_true rfl⟩ ⟨Nat.le_of_ble_eq_true rfl, Nat.le_of_ble_eq_true rfl⟩ ⟨rfl, rfl⟩ [6] [0, 1, 2, 3, 4, 5] [0, 1, 2, 3, 4, 5, 6, 7] rfl rfl rfl rfl (by decide) rfl (fun _ => rfl) hl.1 rfl rfl (Nat.le_of_ble_eq_true rfl) d_PP_init_54 (fun u14 H locs h hw => ?_)
  refine kputF (v := .ref q11) (ty := .object "PicturePacker$Output") (T := F_PP) (ws' := [(a 0, .inr (0, [.ref q1, .ref q8, .ref q11, .null, .null])), (q1, .inr (1, [.int u6.2.2.1, .int u6.2.2.2.1, .int u6.2.2.2.2.1, .ref (u6.1 8)])), (u6.1 8, .inl (cI, u6.2.1 8, .inl u6.2.2.2.2.2)), (q8, .inr (2, [.ref (u9.1 9), .ref (u9.1 10), .ref q1, .int u9.2.2.1])), (u9.1 9, .inl (cI, u9.2.1 9, .inl u9.2.2.2.1)), (u9.1 10, .inl (cI, u9.2.1 10, .inl u9.2.2.2.2)), (q11, .inr (3, [.ref (u14.1 11), .int u14.2.2.1, .int u14.2.2.2.1, .int u14.2.2.2.2.1])), (u14.1 11, .inl (cI, u14.2.1 11, .inl u14.2.2.2.2.2))]) E hw in_PP t_PP t_PP_ok n_PP rfl 0 2 rfl (by decide) tw211 rfl hnm rfl rfl rfl rfl (Nat.le_of_ble_eq_true rfl) rfl d_PP_init_57 (fun H locs hw => ?_)
  refine lv_aload_n hx hb d_PP_init_60 rfl (lv_at hl 0 rfl) ?_
  refine knew (ci := 4) (fs := [.null, .null, .int 0]) (C := "PicturePacker$Chunks") (T := F_Chk) (N := 3) E hw in_Chk t_Chk t_Chk_ok rfl tw134 tw135 tw39 (by intro j hj; rcases (show j = 0 ∨ j = 1 ∨ j = 2 by omega) with rfl | rfl | rfl <;> rfl) (Nat.le_of_ble_eq_true rfl) (Nat.le_of_ble_eq_true rfl) d_PP_init_61 (fun q16 H hw => ?_)
  have h := h q16
  have hw : Wl classes dC dI cI tb A s H _ [(a 0, .inr (0, [.ref q1, .ref q8, .ref q11, .null, .null])), (q1, .inr (1, [.int u6.2.2.1, .int u6.2.2.2.1, .int u6.2.2.2.2.1, .ref (u6.1 8)])), (u6.1 8, .inl (cI, u6.2.1 8, .inl u6.2.2.2.2.2)), (q8, .inr (2, [.ref (u9.1 9), .ref (u9.1 10), .ref q1, .int u9.2.2.1])), (u9.1 9, .inl (cI, u9.2.1 9, .inl u9.2.2.2.1)), (u9.1 10, .inl (cI, u9.2.1 10, .inl u9.2.2.2.2)), (q11, .inr (3, [.ref (u14.1 11), .int u14.2.2.1, .int u14.2.2.2.1, .int u14.2.2.2.2.1])), (u14.1 11, .inl (cI, u14.2.1 11, .inl u14.2.2.2.2.2)), (q16, .inr (4, [.null, .null, .int 0]))] := hw
  refine lv_dup hx hb d_PP_init_64 rfl ?_
  refine lv_aload_n hx hb d_PP_init_65 rfl (lv_at hl 0 rfl) ?_
  refine kget (v := .ref q11) (T := F_PP) E hw in_PP rfl 0 2 rfl (by decide) tw211 rfl d_PP_init_66 ?_
  refine kIv (y := y_Chk_init) (ws' := fun u17 => [(a 0, .inr (0, [.ref q1, .ref q8, .ref q11, .null, .null])), (q1, .inr (1, [.int u6.2.2.1, .int u6.2.2.2.1, .int u6.2.2.2.2.1, .ref (u6.1 8)])), (u6.1 8, .inl (cI, u6.2.1 8, .inl u6.2.2.2.2.2)), (q8, .inr (2, [.ref (u9.1 9), .ref (u9.1 10), .ref q1, .int u9.2.2.1])), (u9.1 9, .inl (cI, u9.2.1 9, .inl u9.2.2.2.1)), (u9.1 10, .inl (cI, u9.2.1 10, .inl u9.2.2.2.2)), (q11, .inr (3, [.ref (u14.1 11), .int u14.2.2.1, .int u14.2.2.2.1, .int u14.2.2.2.2.1])), (u14.1 11, .inl (cI, u14.2.1 11, .inl u14.2.2.2.2.2)), (q16, .inr (4, [.ref q11, .ref (u17.1 12), .int u17.2.2.1])), (u17.1 12, .inl (cI, u17.2.1 12, .inl u17.2.2.2))]) (wr := [(a 0, .inr (0, [.ref q1, .ref q8, .ref q11, .null, .null])), (q1, .inr (1, [.int u6.2.2.1, .int u6.2.2.2.1, .int u6.2.2.2.2.1, .ref (u6.1 8)])), (u6.1 8, .inl (cI, u6.2.1 8, .inl u6.2.2.2.2.2)), (q8, .inr (2, [.ref (u9.1 9), .ref (u9.1 10), .ref q1, .int u9.2.2.1])), (u9.1 9, .inl (cI, u9.2.1 9, .inl u9.2.2.2.1)), (u9.1 10, .inl (cI, u9.2.1 10, .inl u9.2.2.2.2)), (q11, .inr (3, [.ref (u14.1 11), .int u14.2.2.1, .int u14.2.2.2.1, .int u14.2.2.2.2.1])), (u14.1 11, .inl (cI, u14.2.1 11, .inl u14.2.2.2.2.2))]) (As := [.ref q11]) (rest := [.ref q16, .ref (a 0)]) E hw (c_Chk_init (l := l) (dC := dC) (dI := dI) (cI := cI) (tb := tb) (a := fun k => if k = 3 then q11 else if k = 4 then q16 else 0) (n := fun k => 0)   h) tw136 tw137 tw39 tw138 rfl 1 (by decide) ⟨Nat.le_of_ble_eq_true rfl, Nat.le_of_ble_eq_true rfl⟩ ⟨Nat.le_of_ble_eq_true rfl, Nat.le_of_ble_eq_true rfl⟩ ⟨rfl, rfl⟩ [8] [0, 1, 2, 3, 4, 5, 6, 7] [0, 1, 2, 3, 4, 5, 6, 7, 8, 9] rfl rfl rfl rfl (by decide) rfl (fun _ => rfl) hl.1 rfl rfl (Nat.le_of_ble_eq_true rfl) d_PP_init_69 (fun u17 H locs h hw => ?_)
  refine kputF (v := .ref q16) (ty := .object "PicturePacker$Chunks") (T := F_PP) (ws' := [(a 0, .inr (0, [.ref q1, .ref q8, .ref q11, .ref q16, .null])), (q1, .inr (1, [.int u6.2.2.1, .int u6.2.2.2.1, .int u6.2.2.2.2.1, .ref (u6.1 8)])), (u6.1 8, .inl (cI, u6.2.1 8, .inl u6.2.2.2.2.2)), (q8, .inr (2, [.ref (u9.1 9), .ref (u9.1 10), .ref q1, .int u9.2.2.1])), (u9.1 9, .inl (cI, u9.2.1 9, .inl u9.2.2.2.1)), (u9.1 10, .inl (cI, u9.2.1 10, .inl u9.2.2.2.2)), (q11, .inr (3, [.ref (u14.1 11), .int u14.2.2.1, .int u14.2.2.2.1, .int u14.2.2.2.2.1])), (u14.1 11, .inl (cI, u14.2.1 11, .inl u14.2.2.2.2.2)), (q16, .inr (4, [.ref q11, .ref (u17.1 12), .int u17.2.2.1])), (u17.1 12, .inl (cI, u17.2.1 12, .inl u17.2.2.2))]) E hw in_PP t_PP t_PP_ok n_PP rfl 0 3 rfl (by decide) tw212 rfl hnm rfl rfl rfl rfl (Nat.le_of_ble_eq_true rfl) rfl d_PP_init_72 (fun H locs hw => ?_)
  refine lv_aload_n hx hb d_PP_init_75 rfl (lv_at hl 0 rfl) ?_
  refine knew (ci := 5) (fs := [.null, .null, .null, .int 0, .int 0, .int 0]) (C := "PicturePacker$Packer") (T := F_Pak) (N := 6) E hw in_Pak t_Pak t_Pak_ok rfl tw154 tw155 tw40 (by intro j hj; rcases (show j = 0 ∨ j = 1 ∨ j = 2 ∨ j = 3 ∨ j = 4 ∨ j = 5 by omega) with rfl | rfl | rfl | rfl | rfl | rfl <;> rfl) (Nat.le_of_ble_eq_true rfl) (Nat.le_of_ble_eq_true rfl) d_PP_init_76 (fun q19 H hw => ?_)
  have h := h q19
  have hw : Wl classes dC dI cI tb A s H _ [(a 0, .inr (0, [.ref q1, .ref q8, .ref q11, .ref q16, .null])), (q1, .inr (1, [.int u6.2.2.1, .int u6.2.2.2.1, .int u6.2.2.2.2.1, .ref (u6.1 8)])), (u6.1 8, .inl (cI, u6.2.1 8, .inl u6.2.2.2.2.2)), (q8, .inr (2, [.ref (u9.1 9), .ref (u9.1 10), .ref q1, .int u9.2.2.1])), (u9.1 9, .inl (cI, u9.2.1 9, .inl u9.2.2.2.1)), (u9.1 10, .inl (cI, u9.2.1 10, .inl u9.2.2.2.2)), (q11, .inr (3, [.ref (u14.1 11), .int u14.2.2.1, .int u14.2.2.2.1, .int u14.2.2.2.2.1])), (u14.1 11, .inl (cI, u14.2.1 11, .inl u14.2.2.2.2.2)), (q16, .inr (4, [.ref q11, .ref (u17.1 12), .int u17.2.2.1])), (u17.1 12, .inl (cI, u17.2.1 12, .inl u17.2.2.2)), (q19, .inr (5, [.null, .null, .null, .int 0, .int 0, .int 0]))] := hw
  refine lv_dup hx hb d_PP_init_79 rfl ?_
  refine lv_aload_n hx hb d_PP_init_80 rfl (lv_at hl 0 rfl) ?_
  refine kget (v := .ref q8) (T := F_PP) E hw in_PP rfl 0 1 rfl (by decide) tw210 rfl d_PP_init_81 ?_
  refine kget (v := .ref (u9.1 9)) (T := F_Rows) E hw in_Rows rfl 3 0 rfl (by decide) tw94 rfl d_PP_init_84 ?_
  refine lv_aload_n hx hb d_PP_init_87 rfl (lv_at hl 0 rfl) ?_
  refine kget (v := .ref q11) (T := F_PP) E hw in_PP rfl 0 2 rfl (by decide) tw211 rfl d_PP_init_88 ?_
  refine kIv (y := y_Pak_init) (ws' := fun u20 => [(a 0, .inr (0, [.ref q1, .ref q8, .ref q11, .ref q16, .null])), (q1, .inr (1, [.int u6.2.2.1, .int u6.2.2.2.1, .int u6.2.2.2.2.1, .ref (u6.1 8)])), (u6.1 8, .inl (cI, u6.2.1 8, .inl u6.2.2.2.2.2)), (q8, .inr (2, [.ref (u9.1 9), .ref (u9.1 10), .ref q1, .int u9.2.2.1])), (u9.1 9, .inl (cI, u9.2.1 9, .inl u9.2.2.2.1)), (u9.1 10, .inl (cI, u9.2.1 10, .inl u9.2.2.2.2)), (q11, .inr (3, [.ref (u14.1 11), .int u14.2.2.1, .int u14.2.2.2.1, .int u14.2.2.2.2.1])), (u14.1 11, .inl (cI, u14.2.1 11, .inl u14.2.2.2.2.2)), (q16, .inr (4, [.ref q11, .ref (u17.1 12), .int u17.2.2.1])), (u17.1 12, .inl (cI, u17.2.1 12, .inl u17.2.2.2)), (q19, .inr (5, [.ref (u9.1 9), .ref q11, .ref (u20.1 6), .int u20.2.2.1, .int u20.2.2.2.1, .int u20.2.2.2.2.1])), (u20.1 6, .inr (6, [.ref (u9.1 9), .ref (u20.1 13), .ref (u20.1 14), .int u20.2.2.2.2.2.1, .int u20.2.2.2.2.2.2.1, .int u20.2.2.2.2.2.2.2.1])), (u20.1 13, .inl (cI, u20.2.1 13, .inl u20.2.2.2.2.2.2.2.2.1)), (u20.1 14, .inl (cI, u20.2.1 14, .inl u20.2.2.2.2.2.2.2.2.2))]) (wr := [(a 0, .inr (0, [.ref q1, .ref q8, .ref q11, .ref q16, .null])), (q1, .inr (1, [.int u6.2.2.1, .int u6.2.2.2.1, .int u6.2.2.2.2.1, .ref (u6.1 8)])), (u6.1 8, .inl (cI, u6.2.1 8, .inl u6.2.2.2.2.2)), (q8, .inr (2, [.ref (u9.1 9), .ref (u9.1 10), .ref q1, .int u9.2.2.1])), (u9.1 10, .inl (cI, u9.2.1 10, .inl u9.2.2.2.2)), (q11, .inr (3, [.ref (u14.1 11), .int u14.2.2.1, .int u14.2.2.2.1, .int u14.2.2.2.2.1])), (u14.1 11, .inl (cI, u14.2.1 11, .inl u14.2.2.2.2.2)), (q16, .inr (4, [.ref q11, .ref (u17.1 12), .int u17.2.2.1])), (u17.1 12, .inl (cI, u17.2.1 12, .inl u17.2.2.2))]) (As := [.ref (u9.1 9), .ref q11]) (rest := [.ref q19, .ref (a 0)]) E hw (c_Pak_init (l := l) (dC := dC) (dI := dI) (cI := cI) (tb := tb) (a := fun k => if k = 3 then q11 else if k = 5 then q19 else if k = 9 then u9.1 9 else 0) (n := fun k => if k = 9 then u9.2.1 9 else 0) (rb := u9.2.2.2.1)  h) tw156 tw157 tw40 tw158 rfl 2 (by decide) ⟨Nat.le_of_ble_eq_true rfl, Nat.le_of_ble_eq_true rfl⟩ ⟨Nat.le_of_ble_eq_true rfl, Nat.le_of_ble_eq_true rfl⟩ ⟨rfl, rfl⟩ [10, 4] [0, 1, 2, 3, 5, 6, 7, 8, 9] [0, 1, 2, 3, 10, 4, 5, 6, 7, 8, 9, 11, 12, 13] rfl rfl rfl rfl (by decide) rfl (fun _ => rfl) hl.1 rfl rfl (Nat.le_of_ble_eq_true rfl) d_PP_init_91 (fun u20 H locs h hw => ?_)
  refine kputF (v := .ref q19) (ty := .object "PicturePacker$Packer") (T := F_PP) (ws' := [(a 0, .inr (0, [.ref q1, .ref q8, .ref q11, .ref q16, .ref q19])), (q1, .inr (1, [.int u6.2.2.1, .int u6.2.2.2.1, .int u6.2.2.2.2.1, .ref (u6.1 8)])), (u6.1 8, .inl (cI, u6.2.1 8, .inl u6.2.2.2.2.2)), (q8, .inr (2, [.ref (u9.1 9), .ref (u9.1 10), .ref q1, .int u9.2.2.1])), (u9.1 9, .inl (cI, u9.2.1 9, .inl u9.2.2.2.1)), (u9.1 10, .inl (cI, u9.2.1 10, .inl u9.2.2.2.2)), (q11, .inr (3, [.ref (u14.1 11), .int u14.2.2.1, .int u14.2.2.2.1, .int u14.2.2.2.2.1])), (u14.1 11, .inl (cI, u14.2.1 11, .inl u14.2.2.2.2.2)), (q16, .inr (4, [.ref q11, .ref (u17.1 12), .int u17.2.2.1])), (u17.1 12, .inl (cI, u17.2.1 12, .inl u17.2.2.2)), (q19, .inr (5, [.ref (u9.1 9), .ref q11, .ref (u20.1 6), .int u20.2.2.1, .int u20.2.2.2.1, .int u20.2.2.2.2.1])), (u20.1 6, .inr (6, [.ref (u9.1 9), .ref (u20.1 13), .ref (u20.1 14), .int u20.2.2.2.2.2.1, .int u20.2.2.2.2.2.2.1, .int u20.2.2.2.2.2.2.2.1])), (u20.1 13, .inl (cI, u20.2.1 13, .inl u20.2.2.2.2.2.2.2.2.1)), (u20.1 14, .inl (cI, u20.2.1 14, .inl u20.2.2.2.2.2.2.2.2.2))]) E hw in_PP t_PP t_PP_ok n_PP rfl 0 4 rfl (by decide) tw213 rfl hnm rfl rfl rfl rfl (Nat.le_of_ble_eq_true rfl) rfl d_PP_init_94 (fun H locs hw => ?_)
  exact retV (out := fun u => [(a 0, .inr (0, [.ref (u.1 1), .ref (u.1 2), .ref (u.1 3), .ref (u.1 4), .ref (u.1 5)])), (u.1 1, .inr (1, [.int u.2.2.1, .int u.2.2.2.1, .int u.2.2.2.2.1, .ref (u.1 8)])), (u.1 8, .inl (cI, u.2.1 8, .inl u.2.2.2.2.2.2.2.2.2.2.2.2.2.2.2.2.1)), (u.1 2, .inr (2, [.ref (u.1 9), .ref (u.1 10), .ref (u.1 1), .int u.2.2.2.2.2.1])), (u.1 9, .inl (cI, u.2.1 9, .inl u.2.2.2.2.2.2.2.2.2.2.2.2.2.2.2.2.2.1)), (u.1 10, .inl (cI, u.2.1 10, .inl u.2.2.2.2.2.2.2.2.2.2.2.2.2.2.2.2.2.2.1)), (u.1 3, .inr (3, [.ref (u.1 11), .int u.2.2.2.2.2.2.1, .int u.2.2.2.2.2.2.2.1, .int u.2.2.2.2.2.2.2.2.1])), (u.1 11, .inl (cI, u.2.1 11, .inl u.2.2.2.2.2.2.2.2.2.2.2.2.2.2.2.2.2.2.2.1)), (u.1 4, .inr (4, [.ref (u.1 3), .ref (u.1 12), .int u.2.2.2.2.2.2.2.2.2.1])), (u.1 12, .inl (cI, u.2.1 12, .inl u.2.2.2.2.2.2.2.2.2.2.2.2.2.2.2.2.2.2.2.2.1)), (u.1 5, .inr (5, [.ref (u.1 9), .ref (u.1 3), .ref (u.1 6), .int u.2.2.2.2.2.2.2.2.2.2.1, .int u.2.2.2.2.2.2.2.2.2.2.2.1, .int u.2.2.2.2.2.2.2.2.2.2.2.2.1])), (u.1 6, .inr (6, [.ref (u.1 9), .ref (u.1 13), .ref (u.1 14), .int u.2.2.2.2.2.2.2.2.2.2.2.2.2.1, .int u.2.2.2.2.2.2.2.2.2.2.2.2.2.2.1, .int u.2.2.2.2.2.2.2.2.2.2.2.2.2.2.2.1])), (u.1 13, .inl (cI, u.2.1 13, .inl u.2.2.2.2.2.2.2.2.2.2.2.2.2.2.2.2.2.2.2.2.2.1)), (u.1 14, .inl (cI, u.2.1 14, .inl u.2.2.2.2.2.2.2.2.2.2.2.2.2.2.2.2.2.2.2.2.2.2))]) (u := (fun k => if k = 1 then q1 else if k = 8 then u6.1 8 else if k = 2 then q8 else if k = 9 then u9.1 9 else if k = 10 then u9.1 10 else if k = 3 then q11 else if k = 11 then u14.1 11 else if k = 4 then q16 else if k = 12 then u17.1 12 else if k = 5 then q19 else if k = 6 then u20.1 6 else if k = 13 then u20.1 13 else if k = 14 then u20.1 14 else 0, fun k => if k = 8 then u6.2.1 8 else if k = 9 then u9.2.1 9 else if k = 10 then u9.2.1 10 else if k = 11 then u14.2.1 11 else if k = 12 then u17.2.1 12 else if k = 13 then u20.2.1 13 else if k = 14 then u20.2.1 14 else 0, u6.2.2.1, u6.2.2.2.1, u6.2.2.2.2.1, u9.2.2.1, u14.2.2.1, u14.2.2.2.1, u14.2.2.2.2.1, u17.2.2.1, u20.2.2.1, u20.2.2.2.1, u20.2.2.2.2.1, u20.2.2.2.2.2.1, u20.2.2.2.2.2.2.1, u20.2.2.2.2.2.2.2.1, u6.2.2.2.2.2, u9.2.2.2.1, u9.2.2.2.2, u14.2.2.2.2.2, u17.2.2.2, u20.2.2.2.2.2.2.2.2.1, u20.2.2.2.2.2.2.2.2.2)) E hr hlk hw h d_PP_init_97
