-- PicturePacker$Packer.addRunSign(I)V
theorem d_Pak_addRunSign_0 : decode prog_4_method_7_code 0 = .ok (.iload_n 1, 1) := by decide +kernel
theorem d_Pak_addRunSign_1 : decode prog_4_method_7_code 1 = .ok (.sipush 280, 3) := by decide +kernel
theorem d_Pak_addRunSign_4 : decode prog_4_method_7_code 4 = .ok (.if_icmp .ge 20, 3) := by decide +kernel
theorem d_Pak_addRunSign_7 : decode prog_4_method_7_code 7 = .ok (.aload_n 0, 1) := by decide +kernel
theorem d_Pak_addRunSign_8 : decode prog_4_method_7_code 8 = .ok (.getfield 13, 3) := by decide +kernel
theorem d_Pak_addRunSign_11 : decode prog_4_method_7_code 11 = .ok (.iload_n 1, 1) := by decide +kernel
theorem d_Pak_addRunSign_12 : decode prog_4_method_7_code 12 = .ok (.sipush 256, 3) := by decide +kernel
theorem d_Pak_addRunSign_15 : decode prog_4_method_7_code 15 = .ok (.isub, 1) := by decide +kernel
theorem d_Pak_addRunSign_16 : decode prog_4_method_7_code 16 = .ok (.bipush 7, 2) := by decide +kernel
theorem d_Pak_addRunSign_18 : decode prog_4_method_7_code 18 = .ok (.invokevirtual 67, 3) := by decide +kernel
theorem d_Pak_addRunSign_21 : decode prog_4_method_7_code 21 = .ok (.goto 21, 3) := by decide +kernel
theorem d_Pak_addRunSign_24 : decode prog_4_method_7_code 24 = .ok (.aload_n 0, 1) := by decide +kernel
theorem d_Pak_addRunSign_25 : decode prog_4_method_7_code 25 = .ok (.getfield 13, 3) := by decide +kernel
theorem d_Pak_addRunSign_28 : decode prog_4_method_7_code 28 = .ok (.sipush 192, 3) := by decide +kernel
theorem d_Pak_addRunSign_31 : decode prog_4_method_7_code 31 = .ok (.iload_n 1, 1) := by decide +kernel
theorem d_Pak_addRunSign_32 : decode prog_4_method_7_code 32 = .ok (.iadd, 1) := by decide +kernel
theorem d_Pak_addRunSign_33 : decode prog_4_method_7_code 33 = .ok (.sipush 280, 3) := by decide +kernel
theorem d_Pak_addRunSign_36 : decode prog_4_method_7_code 36 = .ok (.isub, 1) := by decide +kernel
theorem d_Pak_addRunSign_37 : decode prog_4_method_7_code 37 = .ok (.bipush 8, 2) := by decide +kernel
theorem d_Pak_addRunSign_39 : decode prog_4_method_7_code 39 = .ok (.invokevirtual 67, 3) := by decide +kernel
theorem d_Pak_addRunSign_42 : decode prog_4_method_7_code 42 = .ok (.return_, 1) := by decide +kernel
abbrev y_Pak_addRunSign : MethodName := ⟨"PicturePacker$Packer", "addRunSign", "(I)V"⟩
def wp_Pak_addRunSign (n : Nat → Nat) (Out_size : Int32) (Out_gathered : Int32) (Out_gatheredBits : Int32) (ob : Nat → Int32) (x1 : Int32) (post : Int32 × Int32 × Int32 × (Nat → Int32) → Prop) : Prop := ((280 : Int32) ≤ x1 → (wp_Out_addBitsHighestFirst n Out_size Out_gathered Out_gatheredBits ob ((192 + x1) - 280) 8 (fun u2 => post (u2.1, u2.2.1, u2.2.2.1, u2.2.2.2)))) ∧ (¬ ((280 : Int32) ≤ x1) → (wp_Out_addBitsHighestFirst n Out_size Out_gathered Out_gatheredBits ob (x1 - 256) 7 (fun u4 => post (u4.1, u4.2.1, u4.2.2.1, u4.2.2.2))))
set_option maxHeartbeats 2000000 in
set_option maxRecDepth 20000 in
theorem c_Pak_addRunSign {l : Launch} {dC : Nat → ClassId} {dI : Nat → Nat → Nat} {cI : ClassId} {tb : Tbs} {a n : Nat → Nat} {Out_size : Int32} {Out_gathered : Int32} {Out_gatheredBits : Int32} {Pak_singles : Int32} {Pak_runs : Int32} {Pak_longest : Int32} {ob : Nat → Int32} {x1 : Int32} {post : Int32 × Int32 × Int32 × (Nat → Int32) → Prop} (h : wp_Pak_addRunSign n Out_size Out_gathered Out_gatheredBits ob x1 post) : CtV classes dC dI cI tb l y_Pak_addRunSign prog_4_method_7_code 2 ({ frames := 3, cells := 0, slots := 0, locals := 65 }) [.ref (a 5), .int x1] [e_Out a Out_size Out_gathered Out_gatheredBits, e_Pak a Pak_singles Pak_runs Pak_longest, e_ar a n cI 11 ob] (Int32 × Int32 × Int32 × (Nat → Int32)) (fun u => [e_Out a u.1 u.2.1 u.2.2.1, e_Pak a Pak_singles Pak_runs Pak_longest, e_ar a n cI 11 u.2.2.2]) post := by
  refine startV (by decide) (Nat.le_of_ble_eq_true rfl) ?_
  intro p e s m below meth c ls E hr hlk hnm hl hw
  have hl : lv_has ls 2 [(0, .ref (a 5)), (1, .int x1)] := hl
  generalize va_A [e_Out a Out_size Out_gathered Out_gatheredBits, e_Pak a Pak_singles Pak_runs Pak_longest, e_ar a n cI 11 ob] s.heap.size = A at hw ⊢
  obtain ⟨hx, hb, hml, hown, hts⟩ := id E
  unfold wp_Pak_addRunSign at h
  refine lv_iload_n hx hb d_Pak_addRunSign_0 rfl (lv_at hl 1 rfl) ?_
  refine lv_sipush (v := 280) hx hb d_Pak_addRunSign_1 (by decide) ?_
  refine lv_icmp_ge (tgt := 24) hx hb d_Pak_addRunSign_4 (by decide) (fun c1 => ?_) (fun c1 => ?_)
  · have h := h.1 c1
    refine lv_aload_n hx hb d_Pak_addRunSign_24 rfl (lv_at hl 0 rfl) ?_
    refine kget (v := .ref (a 3)) (T := F_Pak) E hw in_Pak rfl 1 1 rfl (by decide) tw188 rfl d_Pak_addRunSign_25 ?_
    refine lv_sipush (v := 192) hx hb d_Pak_addRunSign_28 (by decide) ?_
    refine lv_iload_n hx hb d_Pak_addRunSign_31 rfl (lv_at hl 1 rfl) ?_
    refine lv_iadd hx hb d_Pak_addRunSign_32 ?_
    refine lv_sipush (v := 280) hx hb d_Pak_addRunSign_33 (by decide) ?_
    refine lv_isub hx hb d_Pak_addRunSign_36 ?_
    refine lv_bipush (v := 8) hx hb d_Pak_addRunSign_37 (by decide) ?_
    refine kVv (y := y_Out_addBitsHighestFirst) (ws' := fun u2 => [e_Out a u2.1 u2.2.1 u2.2.2.1, e_Pak a Pak_singles Pak_runs Pak_longest, e_ar a n cI 11 u2.2.2.2]) (wr := [e_Pak a Pak_singles Pak_runs Pak_longest]) (As := [.int ((192 + x1) - 280), .int 8]) (rest := []) E hw (c_Out_addBitsHighestFirst (l := l) (dC := dC) (dI := dI) (cI := cI) (tb := tb) (a := a) (n := n) (Out_size := Out_size) (Out_gathered := Out_gathered) (Out_gatheredBits := Out_gatheredBits) (ob := ob) (x1 := (192 + x1) - 280) (x2 := 8) h) tw384 tw385 tw386 tw38 tw387 2 (by decide) ⟨Nat.le_of_ble_eq_true rfl, Nat.le_of_ble_eq_true rfl⟩ ⟨Nat.le_of_ble_eq_true rfl, Nat.le_of_ble_eq_true rfl⟩ ⟨rfl, rfl⟩ rfl rfl 0 rfl [0, 2] [1] [1, 0, 2] rfl rfl rfl rfl (by decide) rfl (fun _ => rfl) hl.1 rfl rfl (Nat.le_of_ble_eq_true rfl) d_Pak_addRunSign_39 (fun u2 H locs h hw => ?_)
    exact retV (out := fun u => [e_Out a u.1 u.2.1 u.2.2.1, e_Pak a Pak_singles Pak_runs Pak_longest, e_ar a n cI 11 u.2.2.2]) (u := (u2.1, u2.2.1, u2.2.2.1, u2.2.2.2)) E hr hlk hw h d_Pak_addRunSign_42
  · have h := h.2 c1
    refine lv_aload_n hx hb d_Pak_addRunSign_7 rfl (lv_at hl 0 rfl) ?_
    refine kget (v := .ref (a 3)) (T := F_Pak) E hw in_Pak rfl 1 1 rfl (by decide) tw188 rfl d_Pak_addRunSign_8 ?_
    refine lv_iload_n hx hb d_Pak_addRunSign_11 rfl (lv_at hl 1 rfl) ?_
    refine lv_sipush (v := 256) hx hb d_Pak_addRunSign_12 (by decide) ?_
    refine lv_isub hx hb d_Pak_addRunSign_15 ?_
    refine lv_bipush (v := 7) hx hb d_Pak_addRunSign_16 (by decide) ?_
    refine kVv (y := y_Out_addBitsHighestFirst) (ws' := fun u4 => [e_Out a u4.1 u4.2.1 u4.2.2.1, e_Pak a Pak_singles Pak_runs Pak_longest, e_ar a n cI 11 u4.2.2.2]) (wr := [e_Pak a Pak_singles Pak_runs Pak_longest]) (As := [.int (x1 - 256), .int 7]) (rest := []) E hw (c_Out_addBitsHighestFirst (l := l) (dC := dC) (dI := dI) (cI := cI) (tb := tb) (a := a) (n := n) (Out_size := Out_size) (Out_gathered := Out_gathered) (Out_gatheredBits := Out_gatheredBits) (ob := ob) (x1 := x1 - 256) (x2 := 7) h) tw384 tw385 tw386 tw38 tw387 2 (by decide) ⟨Nat.le_of_ble_eq_true rfl, Nat.le_of_ble_eq_true rfl⟩ ⟨Nat.le_of_ble_eq_true rfl, Nat.le_of_ble_eq_true rfl⟩ ⟨rfl, rfl⟩ rfl rfl 0 rfl [0, 2] [1] [1, 0, 2] rfl rfl rfl rfl (by decide) rfl (fun _ => rfl) hl.1 rfl rfl (Nat.le_of_ble_eq_true rfl) d_Pak_addRunSign_18 (fun u4 H locs h hw => ?_)
    refine lv_goto (tgt := 42) hx hb d_Pak_addRunSign_21 (by decide) ?_
    exact retV (out := fun u => [e_Out a u.1 u.2.1 u.2.2.1, e_Pak a Pak_singles Pak_runs Pak_longest, e_ar a n cI 11 u.2.2.2]) (u := (u4.1, u4.2.1, u4.2.2.1, u4.2.2.2)) E hr hlk hw h d_Pak_addRunSign_42
-- PicturePacker$Packer.addSingle(I)V
theorem d_Pak_addSingle_0 : decode prog_4_method_3_code 0 = .ok (.aload_n 0, 1) := by decide +kernel
theorem d_Pak_addSingle_1 : decode prog_4_method_3_code 1 = .ok (.dup, 1) := by decide +kernel
theorem d_Pak_addSingle_2 : decode prog_4_method_3_code 2 = .ok (.getfield 26, 3) := by decide +kernel
theorem d_Pak_addSingle_5 : decode prog_4_method_3_code 5 = .ok (.iconst 1, 1) := by decide +kernel
theorem d_Pak_addSingle_6 : decode prog_4_method_3_code 6 = .ok (.iadd, 1) := by decide +kernel
theorem d_Pak_addSingle_7 : decode prog_4_method_3_code 7 = .ok (.putfield 26, 3) := by decide +kernel
theorem d_Pak_addSingle_10 : decode prog_4_method_3_code 10 = .ok (.iload_n 1, 1) := by decide +kernel
theorem d_Pak_addSingle_11 : decode prog_4_method_3_code 11 = .ok (.sipush 144, 3) := by decide +kernel
theorem d_Pak_addSingle_14 : decode prog_4_method_3_code 14 = .ok (.if_icmp .ge 19, 3) := by decide +kernel
theorem d_Pak_addSingle_17 : decode prog_4_method_3_code 17 = .ok (.aload_n 0, 1) := by decide +kernel
theorem d_Pak_addSingle_18 : decode prog_4_method_3_code 18 = .ok (.getfield 13, 3) := by decide +kernel
theorem d_Pak_addSingle_21 : decode prog_4_method_3_code 21 = .ok (.bipush 48, 2) := by decide +kernel
theorem d_Pak_addSingle_23 : decode prog_4_method_3_code 23 = .ok (.iload_n 1, 1) := by decide +kernel
theorem d_Pak_addSingle_24 : decode prog_4_method_3_code 24 = .ok (.iadd, 1) := by decide +kernel
theorem d_Pak_addSingle_25 : decode prog_4_method_3_code 25 = .ok (.bipush 8, 2) := by decide +kernel
theorem d_Pak_addSingle_27 : decode prog_4_method_3_code 27 = .ok (.invokevirtual 67, 3) := by decide +kernel
theorem d_Pak_addSingle_30 : decode prog_4_method_3_code 30 = .ok (.goto 21, 3) := by decide +kernel
theorem d_Pak_addSingle_33 : decode prog_4_method_3_code 33 = .ok (.aload_n 0, 1) := by decide +kernel
theorem d_Pak_addSingle_34 : decode prog_4_method_3_code 34 = .ok (.getfield 13, 3) := by decide +kernel
theorem d_Pak_addSingle_37 : decode prog_4_method_3_code 37 = .ok (.sipush 400, 3) := by decide +kernel
theorem d_Pak_addSingle_40 : decode prog_4_method_3_code 40 = .ok (.iload_n 1, 1) := by decide +kernel
theorem d_Pak_addSingle_41 : decode prog_4_method_3_code 41 = .ok (.iadd, 1) := by decide +kernel
theorem d_Pak_addSingle_42 : decode prog_4_method_3_code 42 = .ok (.sipush 144, 3) := by decide +kernel
theorem d_Pak_addSingle_45 : decode prog_4_method_3_code 45 = .ok (.isub, 1) := by decide +kernel
theorem d_Pak_addSingle_46 : decode prog_4_method_3_code 46 = .ok (.bipush 9, 2) := by decide +kernel
theorem d_Pak_addSingle_48 : decode prog_4_method_3_code 48 = .ok (.invokevirtual 67, 3) := by decide +kernel
theorem d_Pak_addSingle_51 : decode prog_4_method_3_code 51 = .ok (.return_, 1) := by decide +kernel
abbrev y_Pak_addSingle : MethodName := ⟨"PicturePacker$Packer", "addSingle", "(I)V"⟩
def wp_Pak_addSingle (n : Nat → Nat) (Out_size : Int32) (Out_gathered : Int32) (Out_gatheredBits : Int32) (Pak_singles : Int32) (ob : Nat → Int32) (x1 : Int32) (post : Int32 × Int32 × Int32 × Int32 × (Nat → Int32) → Prop) : Prop := ∀ z1 : Int32, z1 = (Pak_singles + 1) → (((144 : Int32) ≤ x1 → (wp_Out_addBitsHighestFirst n Out_size Out_gathered Out_gatheredBits ob ((400 + x1) - 144) 9 (fun u3 => post (u3.1, u3.2.1, u3.2.2.1, z1, u3.2.2.2)))) ∧ (¬ ((144 : Int32) ≤ x1) → (wp_Out_addBitsHighestFirst n Out_size Out_gathered Out_gatheredBits ob (48 + x1) 8 (fun u5 => post (u5.1, u5.2.1, u5.2.2.1, z1, u5.2.2.2)))))
set_option maxHeartbeats 2000000 in
set_option maxRecDepth 20000 in
theorem c_Pak_addSingle {l : Launch} {dC : Nat → ClassId} {dI : Nat → Nat → Nat} {cI : ClassId} {tb : Tbs} {a n : Nat → Nat} {Out_size : Int32} {Out_gathered : Int32} {Out_gatheredBits : Int32} {Pak_singles : Int32} {Pak_runs : Int32} {Pak_longest : Int32} {ob : Nat → Int32} {x1 : Int32} {post : Int32 × Int32 × Int32 × Int32 × (Nat → Int32) → Prop} (h : wp_Pak_addSingle n Out_size Out_gathered Out_gatheredBits Pak_singles ob x1 post) : CtV classes dC dI cI tb l y_Pak_addSingle prog_4_method_3_code 2 ({ frames := 3, cells := 0, slots := 0, locals := 65 }) [.ref (a 5), .int x1] [e_Out a Out_size Out_gathered Out_gatheredBits, e_Pak a Pak_singles Pak_runs Pak_longest, e_ar a n cI 11 ob] (Int32 × Int32 × Int32 × Int32 × (Nat → Int32)) (fun u => [e_Out a u.1 u.2.1 u.2.2.1, e_Pak a u.2.2.2.1 Pak_runs Pak_longest, e_ar a n cI 11 u.2.2.2.2]) post := by
  refine startV (by decide) (Nat.le_of_ble_eq_true rfl) ?_
  intro p e s m below meth c ls E hr hlk hnm hl hw
  have hl : lv_has ls 2 [(0, .ref (a 5)), (1, .int x1)] := hl
  generalize va_A [e_Out a Out_size Out_gathered Out_gatheredBits, e_Pak a Pak_singles Pak_runs Pak_longest, e_ar a n cI 11 ob] s.heap.size = A at hw ⊢
  obtain ⟨hx, hb, hml, hown, hts⟩ := id E
  unfold wp_Pak_addSingle at h
  refine lv_aload_n hx hb d_Pak_addSingle_0 rfl (lv_at hl 0 rfl) ?_
  refine lv_dup hx hb d_Pak_addSingle_1 rfl ?_
  refine kget (v := .int Pak_singles) (T := F_Pak) E hw in_Pak rfl 1 3 rfl (by decide) tw190 rfl d_Pak_addSingle_2 ?_
  refine lv_iconst (v := 1) hx hb d_Pak_addSingle_5 (by decide) ?_
  refine lv_iadd hx hb d_Pak_addSingle_6 ?_
  refine lv_topi (fun z1 ez1 => ?_)
  have h := h z1 ez1
  refine kput (v := .int z1) (ty := .int) (T := F_Pak) (ws' := [e_Out a Out_size Out_gathered Out_gatheredBits, e_Pak a z1 Pak_runs Pak_longest, e_ar a n cI 11 ob]) E hw in_Pak t_Pak t_Pak_ok n_Pak rfl 1 3 rfl (by decide) tw190 rfl rfl rfl rfl (Nat.le_of_ble_eq_true rfl) rfl d_Pak_addSingle_7 (fun H locs hw => ?_)
  refine lv_iload_n hx hb d_Pak_addSingle_10 rfl (lv_at hl 1 rfl) ?_
  refine lv_sipush (v := 144) hx hb d_Pak_addSingle_11 (by decide) ?_
  refine lv_icmp_ge (tgt := 33) hx hb d_Pak_addSingle_14 (by decide) (fun c2 => ?_) (fun c2 => ?_)
  · have h := h.1 c2
    refine lv_aload_n hx hb d_Pak_addSingle_33 rfl (lv_at hl 0 rfl) ?_
    refine kget (v := .ref (a 3)) (T := F_Pak) E hw in_Pak rfl 1 1 rfl (by decide) tw188 rfl d_Pak_addSingle_34 ?_
    refine lv_sipush (v := 400) hx hb d_Pak_addSingle_37 (by decide) ?_
    refine lv_iload_n hx hb d_Pak_addSingle_40 rfl (lv_at hl 1 rfl) ?_
    refine lv_iadd hx hb d_Pak_addSingle_41 ?_
    refine lv_sipush (v := 144) hx hb d_Pak_addSingle_42 (by decide) ?_
    refine lv_isub hx hb d_Pak_addSingle_45 ?_
    refine lv_bipush (v := 9) hx hb d_Pak_addSingle_46 (by decide) ?_
    refine kVv (y := y_Out_addBitsHighestFirst) (ws' := fun u3 => [e_Out a u3.1 u3.2.1 u3.2.2.1, e_Pak a z1 Pak_runs Pak_longest, e_ar a n cI 11 u3.2.2.2]) (wr := [e_Pak a z1 Pak_runs Pak_longest]) (As := [.int ((400 + x1) - 144), .int 9]) (rest := []) E hw (c_Out_addBitsHighestFirst (l := l) (dC := dC) (dI := dI) (cI := cI) (tb := tb) (a := a) (n := n) (Out_size := Out_size) (Out_gathered := Out_gathered) (Out_gatheredBits := Out_gatheredBits) (ob := ob) (x1 := (400 + x1) - 144) (x2 := 9) h) tw384 tw385 tw386 tw38 tw387 2 (by decide) ⟨Nat.le_of_ble_eq_true rfl, Nat.le_of_ble_eq_true rfl⟩ ⟨Nat.le_of_ble_eq_true rfl, Nat.le_of_ble_eq_true rfl⟩ ⟨rfl, rfl⟩ rfl rfl 0 rfl [0, 2] [1] [1, 0, 2] rfl rfl rfl rfl (by decide) rfl (fun _ => rfl) hl.1 rfl rfl (Nat.le_of_ble_eq_true rfl) d_Pak_addSingle_48 (fun u3 H locs h hw => ?_)
    exact retV (out := fun u => [e_Out a u.1 u.2.1 u.2.2.1, e_Pak a u.2.2.2.1 Pak_runs Pak_longest, e_ar a n cI 11 u.2.2.2.2]) (u := (u3.1, u3.2.1, u3.2.2.1, z1, u3.2.2.2)) E hr hlk hw h d_Pak_addSingle_51
  · have h := h.2 c2
    refine lv_aload_n hx hb d_Pak_addSingle_17 rfl (lv_at hl 0 rfl) ?_
    refine kget (v := .ref (a 3)) (T := F_Pak) E hw in_Pak rfl 1 1 rfl (by decide) tw188 rfl d_Pak_addSingle_18 ?_
    refine lv_bipush (v := 48) hx hb d_Pak_addSingle_21 (by decide) ?_
    refine lv_iload_n hx hb d_Pak_addSingle_23 rfl (lv_at hl 1 rfl) ?_
    refine lv_iadd hx hb d_Pak_addSingle_24 ?_
    refine lv_bipush (v := 8) hx hb d_Pak_addSingle_25 (by decide) ?_
    refine kVv (y := y_Out_addBitsHighestFirst) (ws' := fun u5 => [e_Out a u5.1 u5.2.1 u5.2.2.1, e_Pak a z1 Pak_runs Pak_longest, e_ar a n cI 11 u5.2.2.2]) (wr := [e_Pak a z1 Pak_runs Pak_longest]) (As := [.int (48 + x1), .int 8]) (rest := []) E hw (c_Out_addBitsHighestFirst (l := l) (dC := dC) (dI := dI) (cI := cI) (tb := tb) (a := a) (n := n) (Out_size := Out_size) (Out_gathered := Out_gathered) (Out_gatheredBits := Out_gatheredBits) (ob := ob) (x1 := 48 + x1) (x2 := 8) h) tw384 tw385 tw386 tw38 tw387 2 (by decide) ⟨Nat.le_of_ble_eq_true rfl, Nat.le_of_ble_eq_true rfl⟩ ⟨Nat.le_of_ble_eq_true rfl, Nat.le_of_ble_eq_true rfl⟩ ⟨rfl, rfl⟩ rfl rfl 0 rfl [0, 2] [1] [1, 0, 2] rfl rfl rfl rfl (by decide) rfl (fun _ => rfl) hl.1 rfl rfl (Nat.le_of_ble_eq_true rfl) d_Pak_addSingle_27 (fun u5 H locs h hw => ?_)
    refine lv_goto (tgt := 51) hx hb d_Pak_addSingle_30 (by decide) ?_
    exact retV (out := fun u => [e_Out a u.1 u.2.1 u.2.2.1, e_Pak a u.2.2.2.1 Pak_runs Pak_longest, e_ar a n cI 11 u.2.2.2.2]) (u := (u5.1, u5.2.1, u5.2.2.1, z1, u5.2.2.2)) E hr hlk hw h d_Pak_addSingle_51
-- PicturePacker$Packer.moreBits(II)I
theorem d_Pak_moreBits_0 : decode prog_4_method_6_code 0 = .ok (.iconst 0, 1) := by decide +kernel
theorem d_Pak_moreBits_1 : decode prog_4_method_6_code 1 = .ok (.istore_n 2, 1) := by decide +kernel
theorem d_Pak_moreBits_2 : decode prog_4_method_6_code 2 = .ok (.iload_n 2, 1) := by decide +kernel
theorem d_Pak_moreBits_3 : decode prog_4_method_6_code 3 = .ok (.bipush 13, 2) := by decide +kernel
theorem d_Pak_moreBits_5 : decode prog_4_method_6_code 5 = .ok (.if_icmp .ge 16, 3) := by decide +kernel
theorem d_Pak_moreBits_8 : decode prog_4_method_6_code 8 = .ok (.iload_n 0, 1) := by decide +kernel
theorem d_Pak_moreBits_9 : decode prog_4_method_6_code 9 = .ok (.iload_n 2, 1) := by decide +kernel
theorem d_Pak_moreBits_10 : decode prog_4_method_6_code 10 = .ok (.ishr, 1) := by decide +kernel
theorem d_Pak_moreBits_11 : decode prog_4_method_6_code 11 = .ok (.iload_n 1, 1) := by decide +kernel
theorem d_Pak_moreBits_12 : decode prog_4_method_6_code 12 = .ok (.if_icmp .lt 9, 3) := by decide +kernel
theorem d_Pak_moreBits_15 : decode prog_4_method_6_code 15 = .ok (.iinc 2 1, 3) := by decide +kernel
theorem d_Pak_moreBits_18 : decode prog_4_method_6_code 18 = .ok (.goto (-16), 3) := by decide +kernel
theorem d_Pak_moreBits_21 : decode prog_4_method_6_code 21 = .ok (.iload_n 2, 1) := by decide +kernel
theorem d_Pak_moreBits_22 : decode prog_4_method_6_code 22 = .ok (.ireturn, 1) := by decide +kernel
abbrev y_Pak_moreBits : MethodName := ⟨"PicturePacker$Packer", "moreBits", "(II)I"⟩
def wp_Pak_moreBits_2 (n : Nat → Nat) (x0 : Int32) (x1 : Int32) (post : Int32 → Unit → Prop) : Nat → Int32 → Prop
  | 0 => fun _ => False
  | N + 1 => fun y2 => ((13 : Int32) ≤ y2 → (post y2 ())) ∧ (¬ ((13 : Int32) ≤ y2) → ((((x0 : Int32) >>> (y2 &&& 31) : Int32) < x1 → (post y2 ())) ∧ (¬ (((x0 : Int32) >>> (y2 &&& 31) : Int32) < x1) → (∀ z3 : Int32, z3 = (y2 + 1) → (wp_Pak_moreBits_2 n x0 x1 post N z3)))))
def wp_Pak_moreBits (n : Nat → Nat) (x0 : Int32) (x1 : Int32) (post : Int32 → Unit → Prop) : Prop := ∃ N4 : Nat, wp_Pak_moreBits_2 n x0 x1 post N4 0
set_option maxHeartbeats 2000000 in
set_option maxRecDepth 20000 in
theorem s_Pak_moreBits_2 {l : Launch} {dC : Nat → ClassId} {dI : Nat → Nat → Nat} {cI : ClassId} {tb : Tbs} {a n : Nat → Nat} {p : Program} {e : Env} {s : State} {m : MethodId} {args : Array Value} {below : List Frame} {meth : Method} {c : Code} {A : Nat → Prop} (E : CallFix p m c prog_4_method_6_code 3 s args TBL "PicturePacker$Packer") (hr : meth.sig.returnType = some .int) (hlk : meth.locks = false) {x0 : Int32} {x1 : Int32} {post : Int32 → Unit → Prop} : ∀ (N : Nat) (y2 : Int32) (H : Heap) (locs : List Loc) (ls : Array Slot), Wl classes dC dI cI tb A s H locs [] → lv_has ls 3 [(0, .int x0), (1, .int x1), (2, .int y2)] → wp_Pak_moreBits_2 n x0 x1 post N y2 → W p l e ({ frames := 0, cells := 0, slots := 0, locals := 0 }) s m args below meth c H locs 0 0 (MQ below (va_Qi post (fun u => End0 classes dC dI cI A []) A) args s 0 0 A) (F0 m 2 ls []) := by
  obtain ⟨hx, hb, hml, hown, hts⟩ := id E
  intro N
  induction N with
  | zero =>
    intro _ H locs ls hw hl h
    exact absurd h id
  | succ N ih =>
    intro y2 H locs ls hw hl h
    unfold wp_Pak_moreBits_2 at h
    refine lv_iload_n hx hb d_Pak_moreBits_2 rfl (lv_at hl 2 rfl) ?_
    refine lv_bipush (v := 13) hx hb d_Pak_moreBits_3 (by decide) ?_
    refine lv_icmp_ge (tgt := 21) hx hb d_Pak_moreBits_5 (by decide) (fun c1 => ?_) (fun c1 => ?_)
    · have h := h.1 c1
      refine lv_iload_n hx hb d_Pak_moreBits_21 rfl (lv_at hl 2 rfl) ?_
      exact retI (out := fun u => []) (u := ()) E hr hlk rfl hw h d_Pak_moreBits_22
    · have h := h.2 c1
      refine lv_iload_n hx hb d_Pak_moreBits_8 rfl (lv_at hl 0 rfl) ?_
      refine lv_iload_n hx hb d_Pak_moreBits_9 rfl (lv_at hl 2 rfl) ?_
      refine lv_ishr hx hb d_Pak_moreBits_10 ?_
      refine lv_iload_n hx hb d_Pak_moreBits_11 rfl (lv_at hl 1 rfl) ?_
      refine lv_icmp_lt (tgt := 21) hx hb d_Pak_moreBits_12 (by decide) (fun c2 => ?_) (fun c2 => ?_)
      · have h := h.1 c2
        refine lv_iload_n hx hb d_Pak_moreBits_21 rfl (lv_at hl 2 rfl) ?_
        exact retI (out := fun u => []) (u := ()) E hr hlk rfl hw h d_Pak_moreBits_22
      · have h := h.2 c2
        obtain ⟨z3, ez3⟩ : ∃ z : Int32, z = y2 + 1 := ⟨_, rfl⟩
        have h := h z3 ez3
        refine lv_iinc (v := z3) (lv' := [(2, .int z3), (0, .int x0), (1, .int x1)]) hx hb d_Pak_moreBits_15 hl (k := 2) rfl (by rw [ez3]; exact congrArg (y2 + ·) (by decide)) (by decide) rfl (fun ls hl => ?_)
        refine lv_goto (tgt := 2) hx hb d_Pak_moreBits_18 (by decide) ?_
        exact ih z3 _ _ ls hw (lv_sub hl [1, 2, 0] rfl) h
set_option maxHeartbeats 2000000 in
set_option maxRecDepth 20000 in
theorem c_Pak_moreBits {l : Launch} {dC : Nat → ClassId} {dI : Nat → Nat → Nat} {cI : ClassId} {tb : Tbs} {a n : Nat → Nat} {x0 : Int32} {x1 : Int32} {post : Int32 → Unit → Prop} (h : wp_Pak_moreBits n x0 x1 post) : CtI classes dC dI cI tb l y_Pak_moreBits prog_4_method_6_code 3 .int ({ frames := 0, cells := 0, slots := 0, locals := 0 }) [.int x0, .int x1] [] (Unit) (fun _ => []) post := by
  refine startI (by decide) (Nat.le_of_ble_eq_true rfl) ?_
  intro p e s m below meth c ls E hr hlk hnm hl hw
  have hl : lv_has ls 3 [(0, .int x0), (1, .int x1)] := hl
  generalize va_A [] s.heap.size = A at hw ⊢
  obtain ⟨hx, hb, hml, hown, hts⟩ := id E
  unfold wp_Pak_moreBits at h
  refine lv_iconst (v := 0) hx hb d_Pak_moreBits_0 (by decide) ?_
  refine lv_istore_n (lv' := [(2, .int 0), (0, .int x0), (1, .int x1)]) hx hb d_Pak_moreBits_1 rfl hl (by decide) rfl (fun ls hl => ?_)
  obtain ⟨N4, h⟩ := h
  exact s_Pak_moreBits_2 (a := a) (n := n) (tb := tb) E hr hlk  N4 0 _ _ ls hw (lv_sub hl [1, 2, 0] rfl) h
-- PicturePacker$Packer.addDistance(I)V
theorem d_Pak_addDistance_0 : decode prog_4_method_5_code 0 = .ok (.iload_n 1, 1) := by decide +kernel
theorem d_Pak_addDistance_1 : decode prog_4_method_5_code 1 = .ok (.iconst 4, 1) := by decide +kernel
theorem d_Pak_addDistance_2 : decode prog_4_method_5_code 2 = .ok (.invokestatic 76, 3) := by decide +kernel
theorem d_Pak_addDistance_5 : decode prog_4_method_5_code 5 = .ok (.istore_n 2, 1) := by decide +kernel
theorem d_Pak_addDistance_6 : decode prog_4_method_5_code 6 = .ok (.aload_n 0, 1) := by decide +kernel
theorem d_Pak_addDistance_7 : decode prog_4_method_5_code 7 = .ok (.getfield 13, 3) := by decide +kernel
theorem d_Pak_addDistance_10 : decode prog_4_method_5_code 10 = .ok (.iconst 2, 1) := by decide +kernel
theorem d_Pak_addDistance_11 : decode prog_4_method_5_code 11 = .ok (.iload_n 2, 1) := by decide +kernel
theorem d_Pak_addDistance_12 : decode prog_4_method_5_code 12 = .ok (.imul, 1) := by decide +kernel
theorem d_Pak_addDistance_13 : decode prog_4_method_5_code 13 = .ok (.iload_n 1, 1) := by decide +kernel
theorem d_Pak_addDistance_14 : decode prog_4_method_5_code 14 = .ok (.iload_n 2, 1) := by decide +kernel
theorem d_Pak_addDistance_15 : decode prog_4_method_5_code 15 = .ok (.ishr, 1) := by decide +kernel
theorem d_Pak_addDistance_16 : decode prog_4_method_5_code 16 = .ok (.iadd, 1) := by decide +kernel
theorem d_Pak_addDistance_17 : decode prog_4_method_5_code 17 = .ok (.iconst 5, 1) := by decide +kernel
theorem d_Pak_addDistance_18 : decode prog_4_method_5_code 18 = .ok (.invokevirtual 67, 3) := by decide +kernel
theorem d_Pak_addDistance_21 : decode prog_4_method_5_code 21 = .ok (.aload_n 0, 1) := by decide +kernel
theorem d_Pak_addDistance_22 : decode prog_4_method_5_code 22 = .ok (.getfield 13, 3) := by decide +kernel
theorem d_Pak_addDistance_25 : decode prog_4_method_5_code 25 = .ok (.iload_n 1, 1) := by decide +kernel
theorem d_Pak_addDistance_26 : decode prog_4_method_5_code 26 = .ok (.iload_n 2, 1) := by decide +kernel
theorem d_Pak_addDistance_27 : decode prog_4_method_5_code 27 = .ok (.invokevirtual 39, 3) := by decide +kernel
theorem d_Pak_addDistance_30 : decode prog_4_method_5_code 30 = .ok (.return_, 1) := by decide +kernel
abbrev y_Pak_addDistance : MethodName := ⟨"PicturePacker$Packer", "addDistance", "(I)V"⟩
def wp_Pak_addDistance (n : Nat → Nat) (Out_size : Int32) (Out_gathered : Int32) (Out_gatheredBits : Int32) (ob : Nat → Int32) (x1 : Int32) (post : Int32 × Int32 × Int32 × (Nat → Int32) → Prop) : Prop := wp_Pak_moreBits n x1 4 (fun r2 _ => wp_Out_addBitsHighestFirst n Out_size Out_gathered Out_gatheredBits ob ((2 * r2) + ((x1 : Int32) >>> (r2 &&& 31))) 5 (fun u3 => wp_Out_addBitsLowestFirst n u3.1 u3.2.1 u3.2.2.1 u3.2.2.2 x1 r2 (fun u5 => post (u5.1, u5.2.1, u5.2.2.1, u5.2.2.2))))
set_option maxHeartbeats 2000000 in
set_option maxRecDepth 20000 in
theorem c_Pak_addDistance {l : Launch} {dC : Nat → ClassId} {dI : Nat → Nat → Nat} {cI : ClassId} {tb : Tbs} {a n : Nat → Nat} {Out_size : Int32} {Out_gathered : Int32} {Out_gatheredBits : Int32} {Pak_singles : Int32} {Pak_runs : Int32} {Pak_longest : Int32} {ob : Nat → Int32} {x1 : Int32} {post : Int32 × Int32 × Int32 × (Nat → Int32) → Prop} (h : wp_Pak_addDistance n Out_size Out_gathered Out_gatheredBits ob x1 post) : CtV classes dC dI cI tb l y_Pak_addDistance prog_4_method_5_code 3 ({ frames := 3, cells := 0, slots := 0, locals := 65 }) [.ref (a 5), .int x1] [e_Out a Out_size Out_gathered Out_gatheredBits, e_Pak a Pak_singles Pak_runs Pak_longest, e_ar a n cI 11 ob] (Int32 × Int32 × Int32 × (Nat → Int32)) (fun u => [e_Out a u.1 u.2.1 u.2.2.1, e_Pak a Pak_singles Pak_runs Pak_longest, e_ar a n cI 11 u.2.2.2]) post := by
  refine startV (by decide) (Nat.le_of_ble_eq_true rfl) ?_
  intro p e s m below meth c ls E hr hlk hnm hl hw
  have hl : lv_has ls 3 [(0, .ref (a 5)), (1, .int x1)] := hl
  generalize va_A [e_Out a Out_size Out_gathered Out_gatheredBits, e_Pak a Pak_singles Pak_runs Pak_longest, e_ar a n cI 11 ob] s.heap.size = A at hw ⊢
  obtain ⟨hx, hb, hml, hown, hts⟩ := id E
  unfold wp_Pak_addDistance at h
  refine lv_iload_n hx hb d_Pak_addDistance_0 rfl (lv_at hl 1 rfl) ?_
  refine lv_iconst (v := 4) hx hb d_Pak_addDistance_1 (by decide) ?_
  refine kSi (y := y_Pak_moreBits) (ws' := fun _ => [e_Out a Out_size Out_gathered Out_gatheredBits, e_Pak a Pak_singles Pak_runs Pak_longest, e_ar a n cI 11 ob]) (wr := [e_Out a Out_size Out_gathered Out_gatheredBits, e_Pak a Pak_singles Pak_runs Pak_longest, e_ar a n cI 11 ob]) (As := [.int x1, .int 4]) (rest := []) E hw (c_Pak_moreBits (l := l) (dC := dC) (dI := dI) (cI := cI) (tb := tb) (a := a) (n := n)  (x0 := x1) (x1 := 4) h) tw377 tw378 tw40 tw379 2 (by decide) ⟨Nat.le_of_ble_eq_true rfl, Nat.le_of_ble_eq_true rfl⟩ ⟨Nat.le_of_ble_eq_true rfl, Nat.le_of_ble_eq_true rfl⟩ ⟨rfl, rfl⟩ [] [0, 1, 2] [0, 1, 2] rfl rfl rfl rfl (by decide) rfl (fun _ => rfl) hl.1 rfl rfl (Nat.le_of_ble_eq_true rfl) d_Pak_addDistance_2 (fun r2 u1 H locs h hw => ?_)
  refine lv_istore_n (lv' := [(2, .int r2), (0, .ref (a 5)), (1, .int x1)]) hx hb d_Pak_addDistance_5 rfl hl (by decide) rfl (fun ls hl => ?_)
  refine lv_aload_n hx hb d_Pak_addDistance_6 rfl (lv_at hl 1 rfl) ?_
  refine kget (v := .ref (a 3)) (T := F_Pak) E hw in_Pak rfl 1 1 rfl (by decide) tw188 rfl d_Pak_addDistance_7 ?_
  refine lv_iconst (v := 2) hx hb d_Pak_addDistance_10 (by decide) ?_
  refine lv_iload_n hx hb d_Pak_addDistance_11 rfl (lv_at hl 0 rfl) ?_
  refine lv_imul hx hb d_Pak_addDistance_12 ?_
  refine lv_iload_n hx hb d_Pak_addDistance_13 rfl (lv_at hl 2 rfl) ?_
  refine lv_iload_n hx hb d_Pak_addDistance_14 rfl (lv_at hl 0 rfl) ?_
  refine lv_ishr hx hb d_Pak_addDistance_15 ?_
  refine lv_iadd hx hb d_Pak_addDistance_16 ?_
  refine lv_iconst (v := 5) hx hb d_Pak_addDistance_17 (by decide) ?_
  refine kVv (y := y_Out_addBitsHighestFirst) (ws' := fun u3 => [e_Out a u3.1 u3.2.1 u3.2.2.1, e_Pak a Pak_singles Pak_runs Pak_longest, e_ar a n cI 11 u3.2.2.2]) (wr := [e_Pak a Pak_singles Pak_runs Pak_longest]) (As := [.int ((2 * r2) + ((x1 : Int32) >>> (r2 &&& 31))), .int 5]) (rest := []) E hw (c_Out_addBitsHighestFirst (l := l) (dC := dC) (dI := dI) (cI := cI) (tb := tb) (a := a) (n := n) (Out_size := Out_size) (Out_gathered := Out_gathered) (Out_gatheredBits := Out_gatheredBits) (ob := ob) (x1 := (2 * r2) + ((x1 : Int32) >>> (r2 &&& 31))) (x2 := 5) h) tw384 tw385 tw386 tw38 tw387 2 (by decide) ⟨Nat.le_of_ble_eq_true rfl, Nat.le_of_ble_eq_true rfl⟩ ⟨Nat.le_of_ble_eq_true rfl, Nat.le_of_ble_eq_true rfl⟩ ⟨rfl, rfl⟩ rfl rfl 0 rfl [0, 2] [1] [1, 0, 2] rfl rfl rfl rfl (by decide) rfl (fun _ => rfl) hl.1 rfl rfl (Nat.le_of_ble_eq_true rfl) d_Pak_addDistance_18 (fun u3 H locs h hw => ?_)
  refine lv_aload_n hx hb d_Pak_addDistance_21 rfl (lv_at hl 1 rfl) ?_
  refine kget (v := .ref (a 3)) (T := F_Pak) E hw in_Pak rfl 1 1 rfl (by decide) tw188 rfl d_Pak_addDistance_22 ?_
  refine lv_iload_n hx hb d_Pak_addDistance_25 rfl (lv_at hl 2 rfl) ?_
  refine lv_iload_n hx hb d_Pak_addDistance_26 rfl (lv_at hl 0 rfl) ?_
  refine kVv (y := y_Out_addBitsLowestFirst) (ws' := fun u5 => [e_Out a u5.1 u5.2.1 u5.2.2.1, e_Pak a Pak_singles Pak_runs Pak_longest, e_ar a n cI 11 u5.2.2.2]) (wr := [e_Pak a Pak_singles Pak_runs Pak_longest]) (As := [.int x1, .int r2]) (rest := []) E hw (c_Out_addBitsLowestFirst (l := l) (dC := dC) (dI := dI) (cI := cI) (tb := tb) (a := a) (n := n) (Out_size := u3.1) (Out_gathered := u3.2.1) (Out_gatheredBits := u3.2.2.1) (ob := u3.2.2.2) (x1 := x1) (x2 := r2) h) tw343 tw344 tw345 tw38 tw346 2 (by decide) ⟨Nat.le_of_ble_eq_true rfl, Nat.le_of_ble_eq_true rfl⟩ ⟨Nat.le_of_ble_eq_true rfl, Nat.le_of_ble_eq_true rfl⟩ ⟨rfl, rfl⟩ rfl rfl 0 rfl [0, 2] [1] [1, 0, 2] rfl rfl rfl rfl (by decide) rfl (fun _ => rfl) hl.1 rfl rfl (Nat.le_of_ble_eq_true rfl) d_Pak_addDistance_27 (fun u5 H locs h hw => ?_)
  exact retV (out := fun u => [e_Out a u.1 u.2.1 u.2.2.1, e_Pak a Pak_singles Pak_runs Pak_longest, e_ar a n cI 11 u.2.2.2]) (u := (u5.1, u5.2.1, u5.2.2.1, u5.2.2.2)) E hr hlk hw h d_Pak_addDistance_30
-- PicturePacker$Packer.addRun(II)V
theorem d_Pak_addRun_0 : decode prog_4_method_4_code 0 = .ok (.aload_n 0, 1) := by decide +kernel
theorem d_Pak_addRun_1 : decode prog_4_method_4_code 1 = .ok (.dup, 1) := by decide +kernel
theorem d_Pak_addRun_2 : decode prog_4_method_4_code 2 = .ok (.getfield 30, 3) := by decide +kernel
theorem d_Pak_addRun_5 : decode prog_4_method_4_code 5 = .ok (.iconst 1, 1) := by decide +kernel
theorem d_Pak_addRun_6 : decode prog_4_method_4_code 6 = .ok (.iadd, 1) := by decide +kernel
theorem d_Pak_addRun_7 : decode prog_4_method_4_code 7 = .ok (.putfield 30, 3) := by decide +kernel
theorem d_Pak_addRun_10 : decode prog_4_method_4_code 10 = .ok (.aload_n 0, 1) := by decide +kernel
theorem d_Pak_addRun_11 : decode prog_4_method_4_code 11 = .ok (.aload_n 0, 1) := by decide +kernel
theorem d_Pak_addRun_12 : decode prog_4_method_4_code 12 = .ok (.getfield 33, 3) := by decide +kernel
theorem d_Pak_addRun_15 : decode prog_4_method_4_code 15 = .ok (.iload_n 1, 1) := by decide +kernel
theorem d_Pak_addRun_16 : decode prog_4_method_4_code 16 = .ok (.invokestatic 70, 3) := by decide +kernel
theorem d_Pak_addRun_19 : decode prog_4_method_4_code 19 = .ok (.putfield 33, 3) := by decide +kernel
theorem d_Pak_addRun_22 : decode prog_4_method_4_code 22 = .ok (.iload_n 1, 1) := by decide +kernel
theorem d_Pak_addRun_23 : decode prog_4_method_4_code 23 = .ok (.iconst 3, 1) := by decide +kernel
theorem d_Pak_addRun_24 : decode prog_4_method_4_code 24 = .ok (.isub, 1) := by decide +kernel
theorem d_Pak_addRun_25 : decode prog_4_method_4_code 25 = .ok (.istore_n 3, 1) := by decide +kernel
theorem d_Pak_addRun_26 : decode prog_4_method_4_code 26 = .ok (.iload_n 1, 1) := by decide +kernel
theorem d_Pak_addRun_27 : decode prog_4_method_4_code 27 = .ok (.sipush 258, 3) := by decide +kernel
theorem d_Pak_addRun_30 : decode prog_4_method_4_code 30 = .ok (.if_icmp .ne 7, 3) := by decide +kernel
theorem d_Pak_addRun_33 : decode prog_4_method_4_code 33 = .ok (.iconst 0, 1) := by decide +kernel
theorem d_Pak_addRun_34 : decode prog_4_method_4_code 34 = .ok (.goto 9, 3) := by decide +kernel
theorem d_Pak_addRun_37 : decode prog_4_method_4_code 37 = .ok (.iload_n 3, 1) := by decide +kernel
theorem d_Pak_addRun_38 : decode prog_4_method_4_code 38 = .ok (.bipush 8, 2) := by decide +kernel
theorem d_Pak_addRun_40 : decode prog_4_method_4_code 40 = .ok (.invokestatic 76, 3) := by decide +kernel
theorem d_Pak_addRun_43 : decode prog_4_method_4_code 43 = .ok (.istore 4, 2) := by decide +kernel
theorem d_Pak_addRun_45 : decode prog_4_method_4_code 45 = .ok (.aload_n 0, 1) := by decide +kernel
theorem d_Pak_addRun_46 : decode prog_4_method_4_code 46 = .ok (.iload_n 1, 1) := by decide +kernel
theorem d_Pak_addRun_47 : decode prog_4_method_4_code 47 = .ok (.sipush 258, 3) := by decide +kernel
theorem d_Pak_addRun_50 : decode prog_4_method_4_code 50 = .ok (.if_icmp .ne 9, 3) := by decide +kernel
theorem d_Pak_addRun_53 : decode prog_4_method_4_code 53 = .ok (.sipush 285, 3) := by decide +kernel
theorem d_Pak_addRun_56 : decode prog_4_method_4_code 56 = .ok (.goto 16, 3) := by decide +kernel
theorem d_Pak_addRun_59 : decode prog_4_method_4_code 59 = .ok (.sipush 257, 3) := by decide +kernel
theorem d_Pak_addRun_62 : decode prog_4_method_4_code 62 = .ok (.iconst 4, 1) := by decide +kernel
theorem d_Pak_addRun_63 : decode prog_4_method_4_code 63 = .ok (.iload 4, 2) := by decide +kernel
theorem d_Pak_addRun_65 : decode prog_4_method_4_code 65 = .ok (.imul, 1) := by decide +kernel
theorem d_Pak_addRun_66 : decode prog_4_method_4_code 66 = .ok (.iadd, 1) := by decide +kernel
theorem d_Pak_addRun_67 : decode prog_4_method_4_code 67 = .ok (.iload_n 3, 1) := by decide +kernel
theorem d_Pak_addRun_68 : decode prog_4_method_4_code 68 = .ok (.iload 4, 2) := by decide +kernel
theorem d_Pak_addRun_70 : decode prog_4_method_4_code 70 = .ok (.ishr, 1) := by decide +kernel
theorem d_Pak_addRun_71 : decode prog_4_method_4_code 71 = .ok (.iadd, 1) := by decide +kernel
theorem d_Pak_addRun_72 : decode prog_4_method_4_code 72 = .ok (.invokevirtual 61, 3) := by decide +kernel
theorem d_Pak_addRun_75 : decode prog_4_method_4_code 75 = .ok (.aload_n 0, 1) := by decide +kernel
theorem d_Pak_addRun_76 : decode prog_4_method_4_code 76 = .ok (.getfield 13, 3) := by decide +kernel
theorem d_Pak_addRun_79 : decode prog_4_method_4_code 79 = .ok (.iload_n 3, 1) := by decide +kernel
theorem d_Pak_addRun_80 : decode prog_4_method_4_code 80 = .ok (.iload 4, 2) := by decide +kernel
theorem d_Pak_addRun_82 : decode prog_4_method_4_code 82 = .ok (.invokevirtual 39, 3) := by decide +kernel
theorem d_Pak_addRun_85 : decode prog_4_method_4_code 85 = .ok (.aload_n 0, 1) := by decide +kernel
theorem d_Pak_addRun_86 : decode prog_4_method_4_code 86 = .ok (.iload_n 2, 1) := by decide +kernel
theorem d_Pak_addRun_87 : decode prog_4_method_4_code 87 = .ok (.iconst 1, 1) := by decide +kernel
theorem d_Pak_addRun_88 : decode prog_4_method_4_code 88 = .ok (.isub, 1) := by decide +kernel
theorem d_Pak_addRun_89 : decode prog_4_method_4_code 89 = .ok (.invokevirtual 79, 3) := by decide +kernel
theorem d_Pak_addRun_92 : decode prog_4_method_4_code 92 = .ok (.return_, 1) := by decide +kernel
abbrev y_Pak_addRun : MethodName := ⟨"PicturePacker$Packer", "addRun", "(II)V"⟩
def wp_Pak_addRun_72 (n : Nat → Nat) (x1 : Int32) (x2 : Int32) (post : Int32 × Int32 × Int32 × Int32 × Int32 × (Nat → Int32) → Prop) (Out_size : Int32) (Out_gathered : Int32) (Out_gatheredBits : Int32) (Pak_runs : Int32) (Pak_longest : Int32) (ob : Nat → Int32) (t0 : Int32) (y3 : Int32) (y4 : Int32) : Prop := wp_Pak_addRunSign n Out_size Out_gathered Out_gatheredBits ob t0 (fun u8 => wp_Out_addBitsLowestFirst n u8.1 u8.2.1 u8.2.2.1 u8.2.2.2 y3 y4 (fun u10 => wp_Pak_addDistance n u10.1 u10.2.1 u10.2.2.1 u10.2.2.2 (x2 - 1) (fun u12 => post (u12.1, u12.2.1, u12.2.2.1, Pak_runs, Pak_longest, u12.2.2.2))))
def wp_Pak_addRun_43 (n : Nat → Nat) (x1 : Int32) (x2 : Int32) (post : Int32 × Int32 × Int32 × Int32 × Int32 × (Nat → Int32) → Prop) (Out_size : Int32) (Out_gathered : Int32) (Out_gatheredBits : Int32) (Pak_runs : Int32) (Pak_longest : Int32) (ob : Nat → Int32) (t0 : Int32) (y3 : Int32) : Prop := (¬ (x1 : Int32) = 258 → (wp_Pak_addRun_72 n x1 x2 post Out_size Out_gathered Out_gatheredBits Pak_runs Pak_longest ob ((257 + (4 * t0)) + ((y3 : Int32) >>> (t0 &&& 31))) y3 t0)) ∧ ((x1 : Int32) = 258 → (wp_Pak_addRun_72 n x1 x2 post Out_size Out_gathered Out_gatheredBits Pak_runs Pak_longest ob 285 y3 t0))
def wp_Pak_addRun (n : Nat → Nat) (Out_size : Int32) (Out_gathered : Int32) (Out_gatheredBits : Int32) (Pak_runs : Int32) (Pak_longest : Int32) (ob : Nat → Int32) (x1 : Int32) (x2 : Int32) (post : Int32 × Int32 × Int32 × Int32 × Int32 × (Nat → Int32) → Prop) : Prop := ∀ z1 : Int32, z1 = (Pak_runs + 1) → (∀ z2 : Int32, z2 = (if (Pak_longest : Int32) < x1 then x1 else Pak_longest) → (∀ z3 : Int32, z3 = (x1 - 3) → ((¬ (x1 : Int32) = 258 → (wp_Pak_moreBits n z3 8 (fun r6 _ => wp_Pak_addRun_43 n x1 x2 post Out_size Out_gathered Out_gatheredBits z1 z2 ob r6 z3))) ∧ ((x1 : Int32) = 258 → (wp_Pak_addRun_43 n x1 x2 post Out_size Out_gathered Out_gatheredBits z1 z2 ob 0 z3)))))
set_option maxHeartbeats 2000000 in
set_option maxRecDepth 20000 in
theorem s_Pak_addRun_72 {l : Launch} {dC : Nat → ClassId} {dI : Nat → Nat → Nat} {cI : ClassId} {tb : Tbs} {a n : Nat → Nat} {p : Program} {e : Env} {s : State} {m : MethodId} {args : Array Value} {below : List Frame} {meth : Method} {c : Code} {A : Nat → Prop} (E : CallFix p m c prog_4_method_4_code 5 s args TBL "PicturePacker$Packer") (hr : meth.sig.returnType = none) (hlk : meth.locks = false) {Pak_singles : Int32} {x1 : Int32} {x2 : Int32} {post : Int32 × Int32 × Int32 × Int32 × Int32 × (Nat → Int32) → Prop} : ∀ (Out_size : Int32) (Out_gathered : Int32) (Out_gatheredBits : Int32) (Pak_runs : Int32) (Pak_longest : Int32) (ob : Nat → Int32) (t0 : Int32) (y3 : Int32) (y4 : Int32) (H : Heap) (locs : List Loc) (ls : Array Slot), Wl classes dC dI cI tb A s H locs [e_Out a Out_size Out_gathered Out_gatheredBits, e_Pak a Pak_singles Pak_runs Pak_longest, e_ar a n cI 11 ob] → lv_has ls 5 [(0, .ref (a 5)), (2, .int x2), (3, .int y3), (4, .int y4)] → wp_Pak_addRun_72 n x1 x2 post Out_size Out_gathered Out_gatheredBits Pak_runs Pak_longest ob t0 y3 y4 → W p l e ({ frames := 4, cells := 0, slots := 0, locals := 87 }) s m args below meth c H locs 0 0 (MQ below (va_Qv post (fun u => End0 classes dC dI cI A [e_Out a u.1 u.2.1 u.2.2.1, e_Pak a Pak_singles u.2.2.2.1 u.2.2.2.2.1, e_ar a n cI 11 u.2.2.2.2.2]) A) args s 0 0 A) (F0 m 72 ls [.int t0, .ref (a 5)]) := by
  obtain ⟨hx, hb, hml, hown, hts⟩ := id E
  intro Out_size Out_gathered Out_gatheredBits Pak_runs Pak_longest ob t0 y3 y4 H locs ls hw hl h
  unfold wp_Pak_addRun_72 at h
  refine kVv (y := y_Pak_addRunSign) (ws' := fun u8 => [e_Out a u8.1 u8.2.1 u8.2.2.1, e_Pak a Pak_singles Pak_runs Pak_longest, e_ar a n cI 11 u8.2.2.2]) (wr := []) (As := [.int t0]) (rest := []) E hw (c_Pak_addRunSign (l := l) (dC := dC) (dI := dI) (cI := cI) (tb := tb) (a := a) (n := n) (Out_size := Out_size) (Out_gathered := Out_gathered) (Out_gatheredBits := Out_gatheredBits) (Pak_singles := Pak_singles) (Pak_runs := Pak_runs) (Pak_longest := Pak_longest) (ob := ob) (x1 := t0) h) tw380 tw382 tw11 tw40 tw383 1 (by decide) ⟨Nat.le_of_ble_eq_true rfl, Nat.le_of_ble_eq_true rfl⟩ ⟨Nat.le_of_ble_eq_true rfl, Nat.le_of_ble_eq_true rfl⟩ ⟨rfl, rfl⟩ rfl rfl 1 rfl [0, 1, 2] [] [0, 1, 2] rfl rfl rfl rfl (by decide) rfl (fun _ => rfl) hl.1 rfl rfl (Nat.le_of_ble_eq_true rfl) d_Pak_addRun_72 (fun u8 H locs h hw => ?_)
  refine lv_aload_n hx hb d_Pak_addRun_75 rfl (lv_at hl 0 rfl) ?_
  refine kget (v := .ref (a 3)) (T := F_Pak) E hw in_Pak rfl 1 1 rfl (by decide) tw188 rfl d_Pak_addRun_76 ?_
  refine lv_iload_n hx hb d_Pak_addRun_79 rfl (lv_at hl 2 rfl) ?_
  refine lv_iload hx hb d_Pak_addRun_80 (lv_at hl 3 rfl) ?_
  refine kVv (y := y_Out_addBitsLowestFirst) (ws' := fun u10 => [e_Out a u10.1 u10.2.1 u10.2.2.1, e_Pak a Pak_singles Pak_runs Pak_longest, e_ar a n cI 11 u10.2.2.2]) (wr := [e_Pak a Pak_singles Pak_runs Pak_longest]) (As := [.int y3, .int y4]) (rest := []) E hw (c_Out_addBitsLowestFirst (l := l) (dC := dC) (dI := dI) (cI := cI) (tb := tb) (a := a) (n := n) (Out_size := u8.1) (Out_gathered := u8.2.1) (Out_gatheredBits := u8.2.2.1) (ob := u8.2.2.2) (x1 := y3) (x2 := y4) h) tw343 tw344 tw345 tw38 tw346 2 (by decide) ⟨Nat.le_of_ble_eq_true rfl, Nat.le_of_ble_eq_true rfl⟩ ⟨Nat.le_of_ble_eq_true rfl, Nat.le_of_ble_eq_true rfl⟩ ⟨rfl, rfl⟩ rfl rfl 0 rfl [0, 2] [1] [1, 0, 2] rfl rfl rfl rfl (by decide) rfl (fun _ => rfl) hl.1 rfl rfl (Nat.le_of_ble_eq_true rfl) d_Pak_addRun_82 (fun u10 H locs h hw => ?_)
  refine lv_aload_n hx hb d_Pak_addRun_85 rfl (lv_at hl 0 rfl) ?_
  refine lv_iload_n hx hb d_Pak_addRun_86 rfl (lv_at hl 1 rfl) ?_
  refine lv_iconst (v := 1) hx hb d_Pak_addRun_87 (by decide) ?_
  refine lv_isub hx hb d_Pak_addRun_88 ?_
  refine kVv (y := y_Pak_addDistance) (ws' := fun u12 => [e_Out a u12.1 u12.2.1 u12.2.2.1, e_Pak a Pak_singles Pak_runs Pak_longest, e_ar a n cI 11 u12.2.2.2]) (wr := []) (As := [.int (x2 - 1)]) (rest := []) E hw (c_Pak_addDistance (l := l) (dC := dC) (dI := dI) (cI := cI) (tb := tb) (a := a) (n := n) (Out_size := u10.1) (Out_gathered := u10.2.1) (Out_gatheredBits := u10.2.2.1) (Pak_singles := Pak_singles) (Pak_runs := Pak_runs) (Pak_longest := Pak_longest) (ob := u10.2.2.2) (x1 := x2 - 1) h) tw388 tw390 tw12 tw40 tw391 1 (by decide) ⟨Nat.le_of_ble_eq_true rfl, Nat.le_of_ble_eq_true rfl⟩ ⟨Nat.le_of_ble_eq_true rfl, Nat.le_of_ble_eq_true rfl⟩ ⟨rfl, rfl⟩ rfl rfl 1 rfl [0, 1, 2] [] [0, 1, 2] rfl rfl rfl rfl (by decide) rfl (fun _ => rfl) hl.1 rfl rfl (Nat.le_of_ble_eq_true rfl) d_Pak_addRun_89 (fun u12 H locs h hw => ?_)
  exact retV (out := fun u => [e_Out a u.1 u.2.1 u.2.2.1, e_Pak a Pak_singles u.2.2.2.1 u.2.2.2.2.1, e_ar a n cI 11 u.2.2.2.2.2]) (u := (u12.1, u12.2.1, u12.2.2.1, Pak_runs, Pak_longest, u12.2.2.2)) E hr hlk hw h d_Pak_addRun_92
set_option maxHeartbeats 2000000 in
set_option maxRecDepth 20000 in
theorem s_Pak_addRun_43 {l : Launch} {dC : Nat → ClassId} {dI : Nat → Nat → Nat} {cI : ClassId} {tb : Tbs} {a n : Nat → Nat} {p : Program} {e : Env} {s : State} {m : MethodId} {args : Array Value} {below : List Frame} {meth : Method} {c : Code} {A : Nat → Prop} (E : CallFix p m c prog_4_method_4_code 5 s args TBL "PicturePacker$Packer") (hr : meth.sig.returnType = none) (hlk : meth.locks = false) {Pak_singles : Int32} {x1 : Int32} {x2 : Int32} {post : Int32 × Int32 × Int32 × Int32 × Int32 × (Nat → Int32) → Prop} : ∀ (Out_size : Int32) (Out_gathered : Int32) (Out_gatheredBits : Int32) (Pak_runs : Int32) (Pak_longest : Int32) (ob : Nat → Int32) (t0 : Int32) (y3 : Int32) (H : Heap) (locs : List Loc) (ls : Array Slot), Wl classes dC dI cI tb A s H locs [e_Out a Out_size Out_gathered Out_gatheredBits, e_Pak a Pak_singles Pak_runs Pak_longest, e_ar a n cI 11 ob] → lv_has ls 5 [(0, .ref (a 5)), (1, .int x1), (2, .int x2), (3, .int y3)] → wp_Pak_addRun_43 n x1 x2 post Out_size Out_gathered Out_gatheredBits Pak_runs Pak_longest ob t0 y3 → W p l e ({ frames := 4, cells := 0, slots := 0, locals := 87 }) s m args below meth c H locs 0 0 (MQ below (va_Qv post (fun u => End0 classes dC dI cI A [e_Out a u.1 u.2.1 u.2.2.1, e_Pak a Pak_singles u.2.2.2.1 u.2.2.2.2.1, e_ar a n cI 11 u.2.2.2.2.2]) A) args s 0 0 A) (F0 m 43 ls [.int t0]) := by
  obtain ⟨hx, hb, hml, hown, hts⟩ := id E
  intro Out_size Out_gathered Out_gatheredBits Pak_runs Pak_longest ob t0 y3 H locs ls hw hl h
  unfold wp_Pak_addRun_43 at h
  refine lv_istore (lv' := [(4, .int t0), (0, .ref (a 5)), (1, .int x1), (2, .int x2), (3, .int y3)]) hx hb d_Pak_addRun_43 hl (by decide) rfl (fun ls hl => ?_)
  refine lv_aload_n hx hb d_Pak_addRun_45 rfl (lv_at hl 1 rfl) ?_
  refine lv_iload_n hx hb d_Pak_addRun_46 rfl (lv_at hl 2 rfl) ?_
  refine lv_sipush (v := 258) hx hb d_Pak_addRun_47 (by decide) ?_
  refine lv_icmp_ne (tgt := 59) hx hb d_Pak_addRun_50 (by decide) (fun c7 => ?_) (fun c7 => ?_)
  · have h := h.1 c7
    refine lv_sipush (v := 257) hx hb d_Pak_addRun_59 (by decide) ?_
    refine lv_iconst (v := 4) hx hb d_Pak_addRun_62 (by decide) ?_
    refine lv_iload hx hb d_Pak_addRun_63 (lv_at hl 0 rfl) ?_
    refine lv_imul hx hb d_Pak_addRun_65 ?_
    refine lv_iadd hx hb d_Pak_addRun_66 ?_
    refine lv_iload_n hx hb d_Pak_addRun_67 rfl (lv_at hl 4 rfl) ?_
    refine lv_iload hx hb d_Pak_addRun_68 (lv_at hl 0 rfl) ?_
    refine lv_ishr hx hb d_Pak_addRun_70 ?_
    refine lv_iadd hx hb d_Pak_addRun_71 ?_
    exact s_Pak_addRun_72 (a := a) (n := n) (tb := tb) E hr hlk  Out_size Out_gathered Out_gatheredBits Pak_runs Pak_longest ob ((257 + (4 * t0)) + ((y3 : Int32) >>> (t0 &&& 31))) y3 t0 _ _ ls hw (lv_sub hl [1, 3, 4, 0] rfl) h
  · have h := h.2 c7
    refine lv_sipush (v := 285) hx hb d_Pak_addRun_53 (by decide) ?_
    refine lv_goto (tgt := 72) hx hb d_Pak_addRun_56 (by decide) ?_
    exact s_Pak_addRun_72 (a := a) (n := n) (tb := tb) E hr hlk  Out_size Out_gathered Out_gatheredBits Pak_runs Pak_longest ob 285 y3 t0 _ _ ls hw (lv_sub hl [1, 3, 4, 0] rfl) h
set_option maxHeartbeats 2000000 in
set_option maxRecDepth 20000 in
theorem c_Pak_addRun {l : Launch} {dC : Nat → ClassId} {dI : Nat → Nat → Nat} {cI : ClassId} {tb : Tbs} {a n : Nat → Nat} {Out_size : Int32} {Out_gathered : Int32} {Out_gatheredBits : Int32} {Pak_singles : Int32} {Pak_runs : Int32} {Pak_longest : Int32} {ob : Nat → Int32} {x1 : Int32} {x2 : Int32} {post : Int32 × Int32 × Int32 × Int32 × Int32 × (Nat → Int32) → Prop} (h : wp_Pak_addRun n Out_size Out_gathered Out_gatheredBits Pak_runs Pak_longest ob x1 x2 post) : CtV classes dC dI cI tb l y_Pak_addRun prog_4_method_4_code 5 ({ frames := 4, cells := 0, slots := 0, locals := 87 }) [.ref (a 5), .int x1, .int x2] [e_Out a Out_size Out_gathered Out_gatheredBits, e_Pak a Pak_singles Pak_runs Pak_longest, e_ar a n cI 11 ob] (Int32 × Int32 × Int32 × Int32 × Int32 × (Nat → Int32)) (fun u => [e_Out a u.1 u.2.1 u.2.2.1, e_Pak a Pak_singles u.2.2.2.1 u.2.2.2.2.1, e_ar a n cI 11 u.2.2.2.2.2]) post := by
  refine startV (by decide) (Nat.le_of_ble_eq_true rfl) ?_
  intro p e s m below meth c ls E hr hlk hnm hl hw
  have hl : lv_has ls 5 [(0, .ref (a 5)), (1, .int x1), (2, .int x2)] := hl
  generalize va_A [e_Out a Out_size Out_gathered Out_gatheredBits, e_Pak a Pak_singles Pak_runs Pak_longest, e_ar a n cI 11 ob] s.heap.size = A at hw ⊢
  obtain ⟨hx, hb, hml, hown, hts⟩ := id E
  unfold wp_Pak_addRun at h
  refine lv_aload_n hx hb d_Pak_addRun_0 rfl (lv_at hl 0 rfl) ?_
  refine lv_dup hx hb d_Pak_addRun_1 rfl ?_
  refine kget (v := .int Pak_runs) (T := F_Pak) E hw in_Pak rfl 1 4 rfl (by decide) tw192 rfl d_Pak_addRun_2 ?_
  refine lv_iconst (v := 1) hx hb d_Pak_addRun_5 (by decide) ?_
  refine lv_iadd hx hb d_Pak_addRun_6 ?_
  refine lv_topi (fun z1 ez1 => ?_)
  have h := h z1 ez1
  refine kput (v := .int z1) (ty := .int) (T := F_Pak) (ws' := [e_Out a Out_size Out_gathered Out_gatheredBits, e_Pak a Pak_singles z1 Pak_longest, e_ar a n cI 11 ob]) E hw in_Pak t_Pak t_Pak_ok n_Pak rfl 1 4 rfl (by decide) tw192 rfl rfl rfl rfl (Nat.le_of_ble_eq_true rfl) rfl d_Pak_addRun_7 (fun H locs hw => ?_)
  refine lv_aload_n hx hb d_Pak_addRun_10 rfl (lv_at hl 0 rfl) ?_
  refine lv_aload_n hx hb d_Pak_addRun_11 rfl (lv_at hl 0 rfl) ?_
  refine kget (v := .int Pak_longest) (T := F_Pak) E hw in_Pak rfl 1 5 rfl (by decide) tw194 rfl d_Pak_addRun_12 ?_
  refine lv_iload_n hx hb d_Pak_addRun_15 rfl (lv_at hl 1 rfl) ?_
  refine kmax E hl.1 tw376 tw60 tw35 tw61 (Nat.le_of_ble_eq_true rfl) (Nat.le_of_ble_eq_true rfl) (Nat.le_of_ble_eq_true rfl) (Nat.le_of_ble_eq_true rfl) d_Pak_addRun_16 ?_
  refine lv_topi (fun z2 ez2 => ?_)
  have h := h z2 ez2
  refine kput (v := .int z2) (ty := .int) (T := F_Pak) (ws' := [e_Out a Out_size Out_gathered Out_gatheredBits, e_Pak a Pak_singles z1 z2, e_ar a n cI 11 ob]) E hw in_Pak t_Pak t_Pak_ok n_Pak rfl 1 5 rfl (by decide) tw194 rfl rfl rfl rfl (Nat.le_of_ble_eq_true rfl) rfl d_Pak_addRun_19 (fun H locs hw => ?_)
  refine lv_iload_n hx hb d_Pak_addRun_22 rfl (lv_at hl 1 rfl) ?_
  refine lv_iconst (v := 3) hx hb d_Pak_addRun_23 (by decide) ?_
  refine lv_isub hx hb d_Pak_addRun_24 ?_
  refine lv_topi (fun z3 ez3 => ?_)
  have h := h z3 ez3
  refine lv_istore_n (lv' := [(3, .int z3), (0, .ref (a 5)), (1, .int x1), (2, .int x2)]) hx hb d_Pak_addRun_25 rfl hl (by decide) rfl (fun ls hl => ?_)
  refine lv_iload_n hx hb d_Pak_addRun_26 rfl (lv_at hl 2 rfl) ?_
  refine lv_sipush (v := 258) hx hb d_Pak_addRun_27 (by decide) ?_
  refine lv_icmp_ne (tgt := 37) hx hb d_Pak_addRun_30 (by decide) (fun c4 => ?_) (fun c4 => ?_)
  · have h := h.1 c4
    refine lv_iload_n hx hb d_Pak_addRun_37 rfl (lv_at hl 0 rfl) ?_
    refine lv_bipush (v := 8) hx hb d_Pak_addRun_38 (by decide) ?_
    refine kSi (y := y_Pak_moreBits) (ws' := fun _ => [e_Out a Out_size Out_gathered Out_gatheredBits, e_Pak a Pak_singles z1 z2, e_ar a n cI 11 ob]) (wr := [e_Out a Out_size Out_gathered Out_gatheredBits, e_Pak a Pak_singles z1 z2, e_ar a n cI 11 ob]) (As := [.int z3, .int 8]) (rest := []) E hw (c_Pak_moreBits (l := l) (dC := dC) (dI := dI) (cI := cI) (tb := tb) (a := a) (n := n)  (x0 := z3) (x1 := 8) h) tw377 tw378 tw40 tw379 2 (by decide) ⟨Nat.le_of_ble_eq_true rfl, Nat.le_of_ble_eq_true rfl⟩ ⟨Nat.le_of_ble_eq_true rfl, Nat.le_of_ble_eq_true rfl⟩ ⟨rfl, rfl⟩ [] [0, 1, 2] [0, 1, 2] rfl rfl rfl rfl (by decide) rfl (fun _ => rfl) hl.1 rfl rfl (Nat.le_of_ble_eq_true rfl) d_Pak_addRun_40 (fun r6 u5 H locs h hw => ?_)
    exact s_Pak_addRun_43 (a := a) (n := n) (tb := tb) E hr hlk  Out_size Out_gathered Out_gatheredBits z1 z2 ob r6 z3 _ _ ls hw (lv_sub hl [1, 2, 3, 0] rfl) h
  · have h := h.2 c4
    refine lv_iconst (v := 0) hx hb d_Pak_addRun_33 (by decide) ?_
    refine lv_goto (tgt := 43) hx hb d_Pak_addRun_34 (by decide) ?_
    exact s_Pak_addRun_43 (a := a) (n := n) (tb := tb) E hr hlk  Out_size Out_gathered Out_gatheredBits z1 z2 ob 0 z3 _ _ ls hw (lv_sub hl [1, 2, 3, 0] rfl) h
-- PicturePacker$Packer.pack()V
theorem d_Pak_pack_0 : decode prog_4_method_2_code 0 = .ok (.aload_n 0, 1) := by decide +kernel
theorem d_Pak_pack_1 : decode prog_4_method_2_code 1 = .ok (.iconst 0, 1) := by decide +kernel
theorem d_Pak_pack_2 : decode prog_4_method_2_code 2 = .ok (.putfield 26, 3) := by decide +kernel
theorem d_Pak_pack_5 : decode prog_4_method_2_code 5 = .ok (.aload_n 0, 1) := by decide +kernel
theorem d_Pak_pack_6 : decode prog_4_method_2_code 6 = .ok (.iconst 0, 1) := by decide +kernel
theorem d_Pak_pack_7 : decode prog_4_method_2_code 7 = .ok (.putfield 30, 3) := by decide +kernel
theorem d_Pak_pack_10 : decode prog_4_method_2_code 10 = .ok (.aload_n 0, 1) := by decide +kernel
theorem d_Pak_pack_11 : decode prog_4_method_2_code 11 = .ok (.iconst 0, 1) := by decide +kernel
theorem d_Pak_pack_12 : decode prog_4_method_2_code 12 = .ok (.putfield 33, 3) := by decide +kernel
theorem d_Pak_pack_15 : decode prog_4_method_2_code 15 = .ok (.aload_n 0, 1) := by decide +kernel
theorem d_Pak_pack_16 : decode prog_4_method_2_code 16 = .ok (.getfield 22, 3) := by decide +kernel
theorem d_Pak_pack_19 : decode prog_4_method_2_code 19 = .ok (.invokevirtual 36, 3) := by decide +kernel
theorem d_Pak_pack_22 : decode prog_4_method_2_code 22 = .ok (.aload_n 0, 1) := by decide +kernel
theorem d_Pak_pack_23 : decode prog_4_method_2_code 23 = .ok (.getfield 13, 3) := by decide +kernel
theorem d_Pak_pack_26 : decode prog_4_method_2_code 26 = .ok (.iconst 3, 1) := by decide +kernel
theorem d_Pak_pack_27 : decode prog_4_method_2_code 27 = .ok (.iconst 3, 1) := by decide +kernel
theorem d_Pak_pack_28 : decode prog_4_method_2_code 28 = .ok (.invokevirtual 39, 3) := by decide +kernel
theorem d_Pak_pack_31 : decode prog_4_method_2_code 31 = .ok (.iconst 0, 1) := by decide +kernel
theorem d_Pak_pack_32 : decode prog_4_method_2_code 32 = .ok (.istore_n 1, 1) := by decide +kernel
theorem d_Pak_pack_33 : decode prog_4_method_2_code 33 = .ok (.iload_n 1, 1) := by decide +kernel
theorem d_Pak_pack_34 : decode prog_4_method_2_code 34 = .ok (.aload_n 0, 1) := by decide +kernel
theorem d_Pak_pack_35 : decode prog_4_method_2_code 35 = .ok (.getfield 7, 3) := by decide +kernel
theorem d_Pak_pack_38 : decode prog_4_method_2_code 38 = .ok (.arraylength, 1) := by decide +kernel
theorem d_Pak_pack_39 : decode prog_4_method_2_code 39 = .ok (.if_icmp .ge 68, 3) := by decide +kernel
theorem d_Pak_pack_42 : decode prog_4_method_2_code 42 = .ok (.aload_n 0, 1) := by decide +kernel
theorem d_Pak_pack_43 : decode prog_4_method_2_code 43 = .ok (.getfield 22, 3) := by decide +kernel
theorem d_Pak_pack_46 : decode prog_4_method_2_code 46 = .ok (.iload_n 1, 1) := by decide +kernel
theorem d_Pak_pack_47 : decode prog_4_method_2_code 47 = .ok (.invokevirtual 45, 3) := by decide +kernel
theorem d_Pak_pack_50 : decode prog_4_method_2_code 50 = .ok (.aload_n 0, 1) := by decide +kernel
theorem d_Pak_pack_51 : decode prog_4_method_2_code 51 = .ok (.getfield 22, 3) := by decide +kernel
theorem d_Pak_pack_54 : decode prog_4_method_2_code 54 = .ok (.getfield 49, 3) := by decide +kernel
theorem d_Pak_pack_57 : decode prog_4_method_2_code 57 = .ok (.ifCond .le 34, 3) := by decide +kernel
theorem d_Pak_pack_60 : decode prog_4_method_2_code 60 = .ok (.aload_n 0, 1) := by decide +kernel
theorem d_Pak_pack_61 : decode prog_4_method_2_code 61 = .ok (.aload_n 0, 1) := by decide +kernel
theorem d_Pak_pack_62 : decode prog_4_method_2_code 62 = .ok (.getfield 22, 3) := by decide +kernel
theorem d_Pak_pack_65 : decode prog_4_method_2_code 65 = .ok (.getfield 49, 3) := by decide +kernel
theorem d_Pak_pack_68 : decode prog_4_method_2_code 68 = .ok (.aload_n 0, 1) := by decide +kernel
theorem d_Pak_pack_69 : decode prog_4_method_2_code 69 = .ok (.getfield 22, 3) := by decide +kernel
theorem d_Pak_pack_72 : decode prog_4_method_2_code 72 = .ok (.getfield 52, 3) := by decide +kernel
theorem d_Pak_pack_75 : decode prog_4_method_2_code 75 = .ok (.invokevirtual 55, 3) := by decide +kernel
theorem d_Pak_pack_78 : decode prog_4_method_2_code 78 = .ok (.iload_n 1, 1) := by decide +kernel
theorem d_Pak_pack_79 : decode prog_4_method_2_code 79 = .ok (.aload_n 0, 1) := by decide +kernel
theorem d_Pak_pack_80 : decode prog_4_method_2_code 80 = .ok (.getfield 22, 3) := by decide +kernel
theorem d_Pak_pack_83 : decode prog_4_method_2_code 83 = .ok (.getfield 49, 3) := by decide +kernel
theorem d_Pak_pack_86 : decode prog_4_method_2_code 86 = .ok (.iadd, 1) := by decide +kernel
theorem d_Pak_pack_87 : decode prog_4_method_2_code 87 = .ok (.istore_n 1, 1) := by decide +kernel
theorem d_Pak_pack_88 : decode prog_4_method_2_code 88 = .ok (.goto (-55), 3) := by decide +kernel
theorem d_Pak_pack_91 : decode prog_4_method_2_code 91 = .ok (.aload_n 0, 1) := by decide +kernel
theorem d_Pak_pack_92 : decode prog_4_method_2_code 92 = .ok (.aload_n 0, 1) := by decide +kernel
theorem d_Pak_pack_93 : decode prog_4_method_2_code 93 = .ok (.getfield 7, 3) := by decide +kernel
theorem d_Pak_pack_96 : decode prog_4_method_2_code 96 = .ok (.iload_n 1, 1) := by decide +kernel
theorem d_Pak_pack_97 : decode prog_4_method_2_code 97 = .ok (.iaload, 1) := by decide +kernel
theorem d_Pak_pack_98 : decode prog_4_method_2_code 98 = .ok (.invokevirtual 58, 3) := by decide +kernel
theorem d_Pak_pack_101 : decode prog_4_method_2_code 101 = .ok (.iinc 1 1, 3) := by decide +kernel
theorem d_Pak_pack_104 : decode prog_4_method_2_code 104 = .ok (.goto (-71), 3) := by decide +kernel
theorem d_Pak_pack_107 : decode prog_4_method_2_code 107 = .ok (.aload_n 0, 1) := by decide +kernel
theorem d_Pak_pack_108 : decode prog_4_method_2_code 108 = .ok (.sipush 256, 3) := by decide +kernel
theorem d_Pak_pack_111 : decode prog_4_method_2_code 111 = .ok (.invokevirtual 61, 3) := by decide +kernel
theorem d_Pak_pack_114 : decode prog_4_method_2_code 114 = .ok (.aload_n 0, 1) := by decide +kernel
theorem d_Pak_pack_115 : decode prog_4_method_2_code 115 = .ok (.getfield 13, 3) := by decide +kernel
theorem d_Pak_pack_118 : decode prog_4_method_2_code 118 = .ok (.invokevirtual 64, 3) := by decide +kernel
theorem d_Pak_pack_121 : decode prog_4_method_2_code 121 = .ok (.return_, 1) := by decide +kernel
abbrev y_Pak_pack : MethodName := ⟨"PicturePacker$Packer", "pack", "()V"⟩
def wp_Pak_pack_33 (n : Nat → Nat) (rb : Nat → Int32) (post : Int32 × Int32 × Int32 × Int32 × Int32 × Int32 × Int32 × Int32 × Int32 × (Nat → Int32) × (Nat → Int32) × (Nat → Int32) → Prop) : Nat → Int32 → Int32 → Int32 → Int32 → Int32 → Int32 → Int32 → Int32 → Int32 → (Nat → Int32) → (Nat → Int32) → (Nat → Int32) → Int32 → Prop
  | 0 => fun _ _ _ _ _ _ _ _ _ _ _ _ _ => False
  | N + 1 => fun Out_size Out_gathered Out_gatheredBits Pak_singles Pak_runs Pak_longest Fin_chained Fin_length Fin_distance ob nw nx y1 => ((nI (n 9) : Int32) ≤ y1 → (wp_Pak_addRunSign n Out_size Out_gathered Out_gatheredBits ob 256 (fun u6 => wp_Out_endByte n u6.1 u6.2.1 u6.2.2.1 u6.2.2.2 (fun u8 => post (u8.1, u8.2.1, u8.2.2.1, Pak_singles, Pak_runs, Pak_longest, Fin_chained, Fin_length, Fin_distance, u8.2.2.2, nw, nx))))) ∧ (¬ ((nI (n 9) : Int32) ≤ y1) → (wp_Fin_lookFrom n Fin_chained Fin_length Fin_distance rb nw nx y1 (fun u10 => ((u10.2.1 : Int32) ≤ 0 → (vp_in y1 (n 9) ∧ (wp_Pak_addSingle n Out_size Out_gathered Out_gatheredBits Pak_singles ob (rb (y1 : Int32).toNatClampNeg) (fun u14 => ∀ z16 : Int32, z16 = (y1 + 1) → (wp_Pak_pack_33 n rb post N u14.1 u14.2.1 u14.2.2.1 u14.2.2.2.1 Pak_runs Pak_longest u10.1 u10.2.1 u10.2.2.1 u14.2.2.2.2 u10.2.2.2.1 u10.2.2.2.2 z16))))) ∧ (¬ ((u10.2.1 : Int32) ≤ 0) → (wp_Pak_addRun n Out_size Out_gathered Out_gatheredBits Pak_runs Pak_longest ob u10.2.1 u10.2.2.1 (fun u17 => ∀ z19 : Int32, z19 = (y1 + u10.2.1) → (wp_Pak_pack_33 n rb post N u17.1 u17.2.1 u17.2.2.1 Pak_singles u17.2.2.2.1 u17.2.2.2.2.1 u10.1 u10.2.1 u10.2.2.1 u17.2.2.2.2.2 u10.2.2.2.1 u10.2.2.2.2 z19)))))))
def wp_Pak_pack (n : Nat → Nat) (Out_size : Int32) (Out_gathered : Int32) (Out_gatheredBits : Int32) (Pak_singles : Int32) (Pak_runs : Int32) (Pak_longest : Int32) (Fin_chained : Int32) (Fin_length : Int32) (Fin_distance : Int32) (rb : Nat → Int32) (ob : Nat → Int32) (nw : Nat → Int32) (nx : Nat → Int32) (post : Int32 × Int32 × Int32 × Int32 × Int32 × Int32 × Int32 × Int32 × Int32 × (Nat → Int32) × (Nat → Int32) × (Nat → Int32) → Prop) : Prop := wp_Fin_restart n Fin_chained nw (fun u1 => wp_Out_addBitsLowestFirst n Out_size Out_gathered Out_gatheredBits ob 3 3 (fun u3 => ∃ N20 : Nat, wp_Pak_pack_33 n rb post N20 u3.1 u3.2.1 u3.2.2.1 0 0 0 u1.1 Fin_length Fin_distance u3.2.2.2 u1.2 nx 0))
set_option maxHeartbeats 2000000 in
set_option maxRecDepth 20000 in
theorem s_Pak_pack_33 {l : Launch} {dC : Nat → ClassId} {dI : Nat → Nat → Nat} {cI : ClassId} {tb : Tbs} {a n : Nat → Nat} {p : Program} {e : Env} {s : State} {m : MethodId} {args : Array Value} {below : List Frame} {meth : Method} {c : Code} {A : Nat → Prop} (E : CallFix p m c prog_4_method_2_code 2 s args TBL "PicturePacker$Packer") (hr : meth.sig.returnType = none) (hlk : meth.locks = false) {rb : Nat → Int32} {post : Int32 × Int32 × Int32 × Int32 × Int32 × Int32 × Int32 × Int32 × Int32 × (Nat → Int32) × (Nat → Int32) × (Nat → Int32) → Prop} : ∀ (N : Nat) (Out_size : Int32) (Out_gathered : Int32) (Out_gatheredBits : Int32) (Pak_singles : Int32) (Pak_runs : Int32) (Pak_longest : Int32) (Fin_chained : Int32) (Fin_length : Int32) (Fin_distance : Int32) (ob : Nat → Int32) (nw : Nat → Int32) (nx : Nat → Int32) (y1 : Int32) (H : Heap) (locs : List Loc) (ls : Array Slot), Wl classes dC dI cI tb A s H locs [e_Out a Out_size Out_gathered Out_gatheredBits, e_Pak a Pak_singles Pak_runs Pak_longest, e_Fin a Fin_chained Fin_length Fin_distance, e_ar a n cI 9 rb, e_ar a n cI 11 ob, e_ar a n cI 13 nw, e_ar a n cI 14 nx] → lv_has ls 2 [(0, .ref (a 5)), (1, .int y1)] → wp_Pak_pack_33 n rb post N Out_size Out_gathered Out_gatheredBits Pak_singles Pak_runs Pak_longest Fin_chained Fin_length Fin_distance ob nw nx y1 → W p l e ({ frames := 5, cells := 0, slots := 0, locals := 111 }) s m args below meth c H locs 0 0 (MQ below (va_Qv post (fun u => End0 classes dC dI cI A [e_Out a u.1 u.2.1 u.2.2.1, e_Pak a u.2.2.2.1 u.2.2.2.2.1 u.2.2.2.2.2.1, e_Fin a u.2.2.2.2.2.2.1 u.2.2.2.2.2.2.2.1 u.2.2.2.2.2.2.2.2.1, e_ar a n cI 9 rb, e_ar a n cI 11 u.2.2.2.2.2.2.2.2.2.1, e_ar a n cI 13 u.2.2.2.2.2.2.2.2.2.2.1, e_ar a n cI 14 u.2.2.2.2.2.2.2.2.2.2.2]) A) args s 0 0 A) (F0 m 33 ls []) := by
  obtain ⟨hx, hb, hml, hown, hts⟩ := id E
  intro N
  induction N with
  | zero =>
    intro _ _ _ _ _ _ _ _ _ _ _ _ _ H locs ls hw hl h
    exact absurd h id
  | succ N ih =>
    intro Out_size Out_gathered Out_gatheredBits Pak_singles Pak_runs Pak_longest Fin_chained Fin_length Fin_distance ob nw nx y1 H locs ls hw hl h
    unfold wp_Pak_pack_33 at h
    refine lv_iload_n hx hb d_Pak_pack_33 rfl (lv_at hl 1 rfl) ?_
    refine lv_aload_n hx hb d_Pak_pack_34 rfl (lv_at hl 0 rfl) ?_
    refine kget (v := .ref (a 9)) (T := F_Pak) E hw in_Pak rfl 1 0 rfl (by decide) tw187 rfl d_Pak_pack_35 ?_
    refine kalen E hw 3 rfl d_Pak_pack_38 ?_
    refine lv_icmp_ge (tgt := 107) hx hb d_Pak_pack_39 (by decide) (fun c5 => ?_) (fun c5 => ?_)
    · have h := h.1 c5
      refine lv_aload_n hx hb d_Pak_pack_107 rfl (lv_at hl 0 rfl) ?_
      refine lv_sipush (v := 256) hx hb d_Pak_pack_108 (by decide) ?_
      refine kVv (y := y_Pak_addRunSign) (ws' := fun u6 => [e_Out a u6.1 u6.2.1 u6.2.2.1, e_Pak a Pak_singles Pak_runs Pak_longest, e_Fin a Fin_chained Fin_length Fin_distance, e_ar a n cI 9 rb, e_ar a n cI 11 u6.2.2.2, e_ar a n cI 13 nw, e_ar a n cI 14 nx]) (wr := [e_Fin a Fin_chained Fin_length Fin_distance, e_ar a n cI 9 rb, e_ar a n cI 13 nw, e_ar a n cI 14 nx]) (As := [.int 256]) (rest := []) E hw (c_Pak_addRunSign (l := l) (dC := dC) (dI := dI) (cI := cI) (tb := tb) (a := a) (n := n) (Out_size := Out_size) (Out_gathered := Out_gathered) (Out_gatheredBits := Out_gatheredBits) (Pak_singles := Pak_singles) (Pak_runs := Pak_runs) (Pak_longest := Pak_longest) (ob := ob) (x1 := 256) h) tw380 tw382 tw11 tw40 tw383 1 (by decide) ⟨Nat.le_of_ble_eq_true rfl, Nat.le_of_ble_eq_true rfl⟩ ⟨Nat.le_of_ble_eq_true rfl, Nat.le_of_ble_eq_true rfl⟩ ⟨rfl, rfl⟩ rfl rfl 1 rfl [0, 1, 4] [2, 3, 5, 6] [4, 5, 0, 1, 6, 2, 3] rfl rfl rfl rfl (by decide) rfl (fun _ => rfl) hl.1 rfl rfl (Nat.le_of_ble_eq_true rfl) d_Pak_pack_111 (fun u6 H locs h hw => ?_)
      refine lv_aload_n hx hb d_Pak_pack_114 rfl (lv_at hl 0 rfl) ?_
      refine kget (v := .ref (a 3)) (T := F_Pak) E hw in_Pak rfl 1 1 rfl (by decide) tw188 rfl d_Pak_pack_115 ?_
      refine kVv (y := y_Out_endByte) (ws' := fun u8 => [e_Out a u8.1 u8.2.1 u8.2.2.1, e_Pak a Pak_singles Pak_runs Pak_longest, e_Fin a Fin_chained Fin_length Fin_distance, e_ar a n cI 9 rb, e_ar a n cI 11 u8.2.2.2, e_ar a n cI 13 nw, e_ar a n cI 14 nx]) (wr := [e_Pak a Pak_singles Pak_runs Pak_longest, e_Fin a Fin_chained Fin_length Fin_distance, e_ar a n cI 9 rb, e_ar a n cI 13 nw, e_ar a n cI 14 nx]) (As := []) (rest := []) E hw (c_Out_endByte (l := l) (dC := dC) (dI := dI) (cI := cI) (tb := tb) (a := a) (n := n) (Out_size := u6.1) (Out_gathered := u6.2.1) (Out_gatheredBits := u6.2.2.1) (ob := u6.2.2.2)  h) tw396 tw397 tw398 tw38 tw399 0 (by decide) ⟨Nat.le_of_ble_eq_true rfl, Nat.le_of_ble_eq_true rfl⟩ ⟨Nat.le_of_ble_eq_true rfl, Nat.le_of_ble_eq_true rfl⟩ ⟨rfl, rfl⟩ rfl rfl 0 rfl [0, 4] [1, 2, 3, 5, 6] [5, 0, 1, 2, 6, 3, 4] rfl rfl rfl rfl (by decide) rfl (fun _ => rfl) hl.1 rfl rfl (Nat.le_of_ble_eq_true rfl) d_Pak_pack_118 (fun u8 H locs h hw => ?_)
      exact retV (out := fun u => [e_Out a u.1 u.2.1 u.2.2.1, e_Pak a u.2.2.2.1 u.2.2.2.2.1 u.2.2.2.2.2.1, e_Fin a u.2.2.2.2.2.2.1 u.2.2.2.2.2.2.2.1 u.2.2.2.2.2.2.2.2.1, e_ar a n cI 9 rb, e_ar a n cI 11 u.2.2.2.2.2.2.2.2.2.1, e_ar a n cI 13 u.2.2.2.2.2.2.2.2.2.2.1, e_ar a n cI 14 u.2.2.2.2.2.2.2.2.2.2.2]) (u := (u8.1, u8.2.1, u8.2.2.1, Pak_singles, Pak_runs, Pak_longest, Fin_chained, Fin_length, Fin_distance, u8.2.2.2, nw, nx)) E hr hlk hw h d_Pak_pack_121
    · have h := h.2 c5
      refine lv_aload_n hx hb d_Pak_pack_42 rfl (lv_at hl 0 rfl) ?_
      refine kget (v := .ref (a 6)) (T := F_Pak) E hw in_Pak rfl 1 2 rfl (by decide) tw189 rfl d_Pak_pack_43 ?_
      refine lv_iload_n hx hb d_Pak_pack_46 rfl (lv_at hl 1 rfl) ?_
      refine kVv (y := y_Fin_lookFrom) (ws' := fun u10 => [e_Out a Out_size Out_gathered Out_gatheredBits, e_Pak a Pak_singles Pak_runs Pak_longest, e_Fin a u10.1 u10.2.1 u10.2.2.1, e_ar a n cI 9 rb, e_ar a n cI 11 ob, e_ar a n cI 13 u10.2.2.2.1, e_ar a n cI 14 u10.2.2.2.2]) (wr := [e_Out a Out_size Out_gathered Out_gatheredBits, e_Pak a Pak_singles Pak_runs Pak_longest, e_ar a n cI 11 ob]) (As := [.int y1]) (rest := []) E hw (c_Fin_lookFrom (l := l) (dC := dC) (dI := dI) (cI := cI) (tb := tb) (a := a) (n := n) (Fin_chained := Fin_chained) (Fin_length := Fin_length) (Fin_distance := Fin_distance) (rb := rb) (nw := nw) (nx := nx) (x1 := y1) h) tw351 tw352 tw353 tw41 tw354 1 (by decide) ⟨Nat.le_of_ble_eq_true rfl, Nat.le_of_ble_eq_true rfl⟩ ⟨Nat.le_of_ble_eq_true rfl, Nat.le_of_ble_eq_true rfl⟩ ⟨rfl, rfl⟩ rfl rfl 2 rfl [2, 3, 5, 6] [0, 1, 4] [0, 1, 3, 4, 2, 5, 6] rfl rfl rfl rfl (by decide) rfl (fun _ => rfl) hl.1 rfl rfl (Nat.le_of_ble_eq_true rfl) d_Pak_pack_47 (fun u10 H locs h hw => ?_)
      refine lv_aload_n hx hb d_Pak_pack_50 rfl (lv_at hl 0 rfl) ?_
      refine kget (v := .ref (a 6)) (T := F_Pak) E hw in_Pak rfl 1 2 rfl (by decide) tw189 rfl d_Pak_pack_51 ?_
      refine kget (v := .int u10.2.1) (T := F_Fin) E hw in_Fin rfl 2 4 rfl (by decide) tw170 rfl d_Pak_pack_54 ?_
      refine lv_if_le (tgt := 91) hx hb d_Pak_pack_57 (by decide) (fun c12 => ?_) (fun c12 => ?_)
      · have h := h.1 c12
        refine lv_aload_n hx hb d_Pak_pack_91 rfl (lv_at hl 0 rfl) ?_
        refine lv_aload_n hx hb d_Pak_pack_92 rfl (lv_at hl 0 rfl) ?_
        refine kget (v := .ref (a 9)) (T := F_Pak) E hw in_Pak rfl 1 0 rfl (by decide) tw187 rfl d_Pak_pack_93 ?_
        refine lv_iload_n hx hb d_Pak_pack_96 rfl (lv_at hl 1 rfl) ?_
        obtain ⟨b13, h⟩ := h
        refine kald E hw 3 rfl b13 d_Pak_pack_97 ?_
        refine kVv (y := y_Pak_addSingle) (ws' := fun u14 => [e_Out a u14.1 u14.2.1 u14.2.2.1, e_Pak a u14.2.2.2.1 Pak_runs Pak_longest, e_Fin a u10.1 u10.2.1 u10.2.2.1, e_ar a n cI 9 rb, e_ar a n cI 11 u14.2.2.2.2, e_ar a n cI 13 u10.2.2.2.1, e_ar a n cI 14 u10.2.2.2.2]) (wr := [e_Fin a u10.1 u10.2.1 u10.2.2.1, e_ar a n cI 9 rb, e_ar a n cI 13 u10.2.2.2.1, e_ar a n cI 14 u10.2.2.2.2]) (As := [.int (rb (y1 : Int32).toNatClampNeg)]) (rest := []) E hw (c_Pak_addSingle (l := l) (dC := dC) (dI := dI) (cI := cI) (tb := tb) (a := a) (n := n) (Out_size := Out_size) (Out_gathered := Out_gathered) (Out_gatheredBits := Out_gatheredBits) (Pak_singles := Pak_singles) (Pak_runs := Pak_runs) (Pak_longest := Pak_longest) (ob := ob) (x1 := rb (y1 : Int32).toNatClampNeg) h) tw392 tw394 tw13 tw40 tw395 1 (by decide) ⟨Nat.le_of_ble_eq_true rfl, Nat.le_of_ble_eq_true rfl⟩ ⟨Nat.le_of_ble_eq_true rfl, Nat.le_of_ble_eq_true rfl⟩ ⟨rfl, rfl⟩ rfl rfl 1 rfl [0, 1, 4] [2, 3, 5, 6] [4, 5, 0, 1, 6, 2, 3] rfl rfl rfl rfl (by decide) rfl (fun _ => rfl) hl.1 rfl rfl (Nat.le_of_ble_eq_true rfl) d_Pak_pack_98 (fun u14 H locs h hw => ?_)
        obtain ⟨z16, ez16⟩ : ∃ z : Int32, z = y1 + 1 := ⟨_, rfl⟩
        have h := h z16 ez16
        refine lv_iinc (v := z16) (lv' := [(1, .int z16), (0, .ref (a 5))]) hx hb d_Pak_pack_101 hl (k := 1) rfl (by rw [ez16]; exact congrArg (y1 + ·) (by decide)) (by decide) rfl (fun ls hl => ?_)
        refine lv_goto (tgt := 33) hx hb d_Pak_pack_104 (by decide) ?_
        exact ih u14.1 u14.2.1 u14.2.2.1 u14.2.2.2.1 Pak_runs Pak_longest u10.1 u10.2.1 u10.2.2.1 u14.2.2.2.2 u10.2.2.2.1 u10.2.2.2.2 z16 _ _ ls hw (lv_sub hl [1, 0] rfl) h
      · have h := h.2 c12
        refine lv_aload_n hx hb d_Pak_pack_60 rfl (lv_at hl 0 rfl) ?_
        refine lv_aload_n hx hb d_Pak_pack_61 rfl (lv_at hl 0 rfl) ?_
        refine kget (v := .ref (a 6)) (T := F_Pak) E hw in_Pak rfl 1 2 rfl (by decide) tw189 rfl d_Pak_pack_62 ?_
        refine kget (v := .int u10.2.1) (T := F_Fin) E hw in_Fin rfl 2 4 rfl (by decide) tw170 rfl d_Pak_pack_65 ?_
        refine lv_aload_n hx hb d_Pak_pack_68 rfl (lv_at hl 0 rfl) ?_
        refine kget (v := .ref (a 6)) (T := F_Pak) E hw in_Pak rfl 1 2 rfl (by decide) tw189 rfl d_Pak_pack_69 ?_
        refine kget (v := .int u10.2.2.1) (T := F_Fin) E hw in_Fin rfl 2 5 rfl (by decide) tw172 rfl d_Pak_pack_72 ?_
        refine kVv (y := y_Pak_addRun) (ws' := fun u17 => [e_Out a u17.1 u17.2.1 u17.2.2.1, e_Pak a Pak_singles u17.2.2.2.1 u17.2.2.2.2.1, e_Fin a u10.1 u10.2.1 u10.2.2.1, e_ar a n cI 9 rb, e_ar a n cI 11 u17.2.2.2.2.2, e_ar a n cI 13 u10.2.2.2.1, e_ar a n cI 14 u10.2.2.2.2]) (wr := [e_Fin a u10.1 u10.2.1 u10.2.2.1, e_ar a n cI 9 rb, e_ar a n cI 13 u10.2.2.2.1, e_ar a n cI 14 u10.2.2.2.2]) (As := [.int u10.2.1, .int u10.2.2.1]) (rest := []) E hw (c_Pak_addRun (l := l) (dC := dC) (dI := dI) (cI := cI) (tb := tb) (a := a) (n := n) (Out_size := Out_size) (Out_gathered := Out_gathered) (Out_gatheredBits := Out_gatheredBits) (Pak_singles := Pak_singles) (Pak_runs := Pak_runs) (Pak_longest := Pak_longest) (ob := ob) (x1 := u10.2.1) (x2 := u10.2.2.1) h) tw372 tw374 tw10 tw40 tw375 2 (by decide) ⟨Nat.le_of_ble_eq_true rfl, Nat.le_of_ble_eq_true rfl⟩ ⟨Nat.le_of_ble_eq_true rfl, Nat.le_of_ble_eq_true rfl⟩ ⟨rfl, rfl⟩ rfl rfl 1 rfl [0, 1, 4] [2, 3, 5, 6] [4, 5, 0, 1, 6, 2, 3] rfl rfl rfl rfl (by decide) rfl (fun _ => rfl) hl.1 rfl rfl (Nat.le_of_ble_eq_true rfl) d_Pak_pack_75 (fun u17 H locs h hw => ?_)
        refine lv_iload_n hx hb d_Pak_pack_78 rfl (lv_at hl 1 rfl) ?_
        refine lv_aload_n hx hb d_Pak_pack_79 rfl (lv_at hl 0 rfl) ?_
        refine kget (v := .ref (a 6)) (T := F_Pak) E hw in_Pak rfl 1 2 rfl (by decide) tw189 rfl d_Pak_pack_80 ?_
        refine kget (v := .int u10.2.1) (T := F_Fin) E hw in_Fin rfl 2 4 rfl (by decide) tw170 rfl d_Pak_pack_83 ?_
        refine lv_iadd hx hb d_Pak_pack_86 ?_
        refine lv_topi (fun z19 ez19 => ?_)
        have h := h z19 ez19
        refine lv_istore_n (lv' := [(1, .int z19), (0, .ref (a 5))]) hx hb d_Pak_pack_87 rfl hl (by decide) rfl (fun ls hl => ?_)
        refine lv_goto (tgt := 33) hx hb d_Pak_pack_88 (by decide) ?_
        exact ih u17.1 u17.2.1 u17.2.2.1 Pak_singles u17.2.2.2.1 u17.2.2.2.2.1 u10.1 u10.2.1 u10.2.2.1 u17.2.2.2.2.2 u10.2.2.2.1 u10.2.2.2.2 z19 _ _ ls hw (lv_sub hl [1, 0] rfl) h
set_option maxHeartbeats 2000000 in
set_option maxRecDepth 20000 in
theorem c_Pak_pack {l : Launch} {dC : Nat → ClassId} {dI : Nat → Nat → Nat} {cI : ClassId} {tb : Tbs} {a n : Nat → Nat} {Out_size : Int32} {Out_gathered : Int32} {Out_gatheredBits : Int32} {Pak_singles : Int32} {Pak_runs : Int32} {Pak_longest : Int32} {Fin_chained : Int32} {Fin_length : Int32} {Fin_distance : Int32} {rb : Nat → Int32} {ob : Nat → Int32} {nw : Nat → Int32} {nx : Nat → Int32} {post : Int32 × Int32 × Int32 × Int32 × Int32 × Int32 × Int32 × Int32 × Int32 × (Nat → Int32) × (Nat → Int32) × (Nat → Int32) → Prop} (h : wp_Pak_pack n Out_size Out_gathered Out_gatheredBits Pak_singles Pak_runs Pak_longest Fin_chained Fin_length Fin_distance rb ob nw nx post) : CtV classes dC dI cI tb l y_Pak_pack prog_4_method_2_code 2 ({ frames := 5, cells := 0, slots := 0, locals := 111 }) [.ref (a 5)] [e_Out a Out_size Out_gathered Out_gatheredBits, e_Pak a Pak_singles Pak_runs Pak_longest, e_Fin a Fin_chained Fin_length Fin_distance, e_ar a n cI 9 rb, e_ar a n cI 11 ob, e_ar a n cI 13 nw, e_ar a n cI 14 nx] (Int32 × Int32 × Int32 × Int32 × Int32 × Int32 × Int32 × Int32 × Int32 × (Nat → Int32) × (Nat → Int32) × (Nat → Int32)) (fun u => [e_Out a u.1 u.2.1 u.2.2.1, e_Pak a u.2.2.2.1 u.2.2.2.2.1 u.2.2.2.2.2.1, e_Fin a u.2.2.2.2.2.2.1 u.2.2.2.2.2.2.2.1 u.2.2.2.2.2.2.2.2.1, e_ar a n cI 9 rb, e_ar a n cI 11 u.2.2.2.2.2.2.2.2.2.1, e_ar a n cI 13 u.2.2.2.2.2.2.2.2.2.2.1, e_ar a n cI 14 u.2.2.2.2.2.2.2.2.2.2.2]) post := by
  refine startV (by decide) (Nat.le_of_ble_eq_true rfl) ?_
  intro p e s m below meth c ls E hr hlk hnm hl hw
  have hl : lv_has ls 2 [(0, .ref (a 5))] := hl
  generalize va_A [e_Out a Out_size Out_gathered Out_gatheredBits, e_Pak a Pak_singles Pak_runs Pak_longest, e_Fin a Fin_chained Fin_length Fin_distance, e_ar a n cI 9 rb, e_ar a n cI 11 ob, e_ar a n cI 13 nw, e_ar a n cI 14 nx] s.heap.size = A at hw ⊢
  obtain ⟨hx, hb, hml, hown, hts⟩ := id E
  unfold wp_Pak_pack at h
  refine lv_aload_n hx hb d_Pak_pack_0 rfl (lv_at hl 0 rfl) ?_
  refine lv_iconst (v := 0) hx hb d_Pak_pack_1 (by decide) ?_
  refine kput (v := .int 0) (ty := .int) (T := F_Pak) (ws' := [e_Out a Out_size Out_gathered Out_gatheredBits, e_Pak a 0 Pak_runs Pak_longest, e_Fin a Fin_chained Fin_length Fin_distance, e_ar a n cI 9 rb, e_ar a n cI 11 ob, e_ar a n cI 13 nw, e_ar a n cI 14 nx]) E hw in_Pak t_Pak t_Pak_ok n_Pak rfl 1 3 rfl (by decide) tw190 rfl rfl rfl rfl (Nat.le_of_ble_eq_true rfl) rfl d_Pak_pack_2 (fun H locs hw => ?_)
  refine lv_aload_n hx hb d_Pak_pack_5 rfl (lv_at hl 0 rfl) ?_
  refine lv_iconst (v := 0) hx hb d_Pak_pack_6 (by decide) ?_
  refine kput (v := .int 0) (ty := .int) (T := F_Pak) (ws' := [e_Out a Out_size Out_gathered Out_gatheredBits, e_Pak a 0 0 Pak_longest, e_Fin a Fin_chained Fin_length Fin_distance, e_ar a n cI 9 rb, e_ar a n cI 11 ob, e_ar a n cI 13 nw, e_ar a n cI 14 nx]) E hw in_Pak t_Pak t_Pak_ok n_Pak rfl 1 4 rfl (by decide) tw192 rfl rfl rfl rfl (Nat.le_of_ble_eq_true rfl) rfl d_Pak_pack_7 (fun H locs hw => ?_)
  refine lv_aload_n hx hb d_Pak_pack_10 rfl (lv_at hl 0 rfl) ?_
  refine lv_iconst (v := 0) hx hb d_Pak_pack_11 (by decide) ?_
  refine kput (v := .int 0) (ty := .int) (T := F_Pak) (ws' := [e_Out a Out_size Out_gathered Out_gatheredBits, e_Pak a 0 0 0, e_Fin a Fin_chained Fin_length Fin_distance, e_ar a n cI 9 rb, e_ar a n cI 11 ob, e_ar a n cI 13 nw, e_ar a n cI 14 nx]) E hw in_Pak t_Pak t_Pak_ok n_Pak rfl 1 5 rfl (by decide) tw194 rfl rfl rfl rfl (Nat.le_of_ble_eq_true rfl) rfl d_Pak_pack_12 (fun H locs hw => ?_)
  refine lv_aload_n hx hb d_Pak_pack_15 rfl (lv_at hl 0 rfl) ?_
  refine kget (v := .ref (a 6)) (T := F_Pak) E hw in_Pak rfl 1 2 rfl (by decide) tw189 rfl d_Pak_pack_16 ?_
  refine kVv (y := y_Fin_restart) (ws' := fun u1 => [e_Out a Out_size Out_gathered Out_gatheredBits, e_Pak a 0 0 0, e_Fin a u1.1 Fin_length Fin_distance, e_ar a n cI 9 rb, e_ar a n cI 11 ob, e_ar a n cI 13 u1.2, e_ar a n cI 14 nx]) (wr := [e_Out a Out_size Out_gathered Out_gatheredBits, e_Pak a 0 0 0, e_ar a n cI 9 rb, e_ar a n cI 11 ob, e_ar a n cI 14 nx]) (As := []) (rest := []) E hw (c_Fin_restart (l := l) (dC := dC) (dI := dI) (cI := cI) (tb := tb) (a := a) (n := n) (Fin_chained := Fin_chained) (Fin_length := Fin_length) (Fin_distance := Fin_distance) (nw := nw)  h) tw338 tw339 tw340 tw41 tw341 0 (by decide) ⟨Nat.le_of_ble_eq_true rfl, Nat.le_of_ble_eq_true rfl⟩ ⟨Nat.le_of_ble_eq_true rfl, Nat.le_of_ble_eq_true rfl⟩ ⟨rfl, rfl⟩ rfl rfl 2 rfl [2, 5] [0, 1, 3, 4, 6] [0, 1, 5, 2, 3, 6, 4] rfl rfl rfl rfl (by decide) rfl (fun _ => rfl) hl.1 rfl rfl (Nat.le_of_ble_eq_true rfl) d_Pak_pack_19 (fun u1 H locs h hw => ?_)
  refine lv_aload_n hx hb d_Pak_pack_22 rfl (lv_at hl 0 rfl) ?_
  refine kget (v := .ref (a 3)) (T := F_Pak) E hw in_Pak rfl 1 1 rfl (by decide) tw188 rfl d_Pak_pack_23 ?_
  refine lv_iconst (v := 3) hx hb d_Pak_pack_26 (by decide) ?_
  refine lv_iconst (v := 3) hx hb d_Pak_pack_27 (by decide) ?_
  refine kVv (y := y_Out_addBitsLowestFirst) (ws' := fun u3 => [e_Out a u3.1 u3.2.1 u3.2.2.1, e_Pak a 0 0 0, e_Fin a u1.1 Fin_length Fin_distance, e_ar a n cI 9 rb, e_ar a n cI 11 u3.2.2.2, e_ar a n cI 13 u1.2, e_ar a n cI 14 nx]) (wr := [e_Pak a 0 0 0, e_Fin a u1.1 Fin_length Fin_distance, e_ar a n cI 9 rb, e_ar a n cI 13 u1.2, e_ar a n cI 14 nx]) (As := [.int 3, .int 3]) (rest := []) E hw (c_Out_addBitsLowestFirst (l := l) (dC := dC) (dI := dI) (cI := cI) (tb := tb) (a := a) (n := n) (Out_size := Out_size) (Out_gathered := Out_gathered) (Out_gatheredBits := Out_gatheredBits) (ob := ob) (x1 := 3) (x2 := 3) h) tw343 tw344 tw345 tw38 tw346 2 (by decide) ⟨Nat.le_of_ble_eq_true rfl, Nat.le_of_ble_eq_true rfl⟩ ⟨Nat.le_of_ble_eq_true rfl, Nat.le_of_ble_eq_true rfl⟩ ⟨rfl, rfl⟩ rfl rfl 0 rfl [0, 4] [1, 2, 3, 5, 6] [5, 0, 1, 2, 6, 3, 4] rfl rfl rfl rfl (by decide) rfl (fun _ => rfl) hl.1 rfl rfl (Nat.le_of_ble_eq_true rfl) d_Pak_pack_28 (fun u3 H locs h hw => ?_)
  refine lv_iconst (v := 0) hx hb d_Pak_pack_31 (by decide) ?_
  refine lv_istore_n (lv' := [(1, .int 0), (0, .ref (a 5))]) hx hb d_Pak_pack_32 rfl hl (by decide) rfl (fun ls hl => ?_)
  obtain ⟨N20, h⟩ := h
  exact s_Pak_pack_33 (a := a) (n := n) (tb := tb) E hr hlk  N20 u3.1 u3.2.1 u3.2.2.1 0 0 0 u1.1 Fin_length Fin_distance u3.2.2.2 u1.2 nx 0 _ _ ls hw (lv_sub hl [1, 0] rfl) h
