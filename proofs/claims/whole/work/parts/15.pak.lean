-- PicturePacker$Packer.addRunSign(I)V
theorem d_Pak_addRunSign_0 : decode prog_4_method_8_code 0 = .ok (.iload_n 1, 1) := by decide +kernel
theorem d_Pak_addRunSign_1 : decode prog_4_method_8_code 1 = .ok (.sipush 280, 3) := by decide +kernel
theorem d_Pak_addRunSign_4 : decode prog_4_method_8_code 4 = .ok (.if_icmp .ge 20, 3) := by decide +kernel
theorem d_Pak_addRunSign_7 : decode prog_4_method_8_code 7 = .ok (.aload_n 0, 1) := by decide +kernel
theorem d_Pak_addRunSign_8 : decode prog_4_method_8_code 8 = .ok (.getfield 13, 3) := by decide +kernel
theorem d_Pak_addRunSign_11 : decode prog_4_method_8_code 11 = .ok (.iload_n 1, 1) := by decide +kernel
theorem d_Pak_addRunSign_12 : decode prog_4_method_8_code 12 = .ok (.sipush 256, 3) := by decide +kernel
theorem d_Pak_addRunSign_15 : decode prog_4_method_8_code 15 = .ok (.isub, 1) := by decide +kernel
theorem d_Pak_addRunSign_16 : decode prog_4_method_8_code 16 = .ok (.bipush 7, 2) := by decide +kernel
theorem d_Pak_addRunSign_18 : decode prog_4_method_8_code 18 = .ok (.invokevirtual 67, 3) := by decide +kernel
theorem d_Pak_addRunSign_21 : decode prog_4_method_8_code 21 = .ok (.goto 21, 3) := by decide +kernel
theorem d_Pak_addRunSign_24 : decode prog_4_method_8_code 24 = .ok (.aload_n 0, 1) := by decide +kernel
theorem d_Pak_addRunSign_25 : decode prog_4_method_8_code 25 = .ok (.getfield 13, 3) := by decide +kernel
theorem d_Pak_addRunSign_28 : decode prog_4_method_8_code 28 = .ok (.sipush 192, 3) := by decide +kernel
theorem d_Pak_addRunSign_31 : decode prog_4_method_8_code 31 = .ok (.iload_n 1, 1) := by decide +kernel
theorem d_Pak_addRunSign_32 : decode prog_4_method_8_code 32 = .ok (.iadd, 1) := by decide +kernel
theorem d_Pak_addRunSign_33 : decode prog_4_method_8_code 33 = .ok (.sipush 280, 3) := by decide +kernel
theorem d_Pak_addRunSign_36 : decode prog_4_method_8_code 36 = .ok (.isub, 1) := by decide +kernel
theorem d_Pak_addRunSign_37 : decode prog_4_method_8_code 37 = .ok (.bipush 8, 2) := by decide +kernel
theorem d_Pak_addRunSign_39 : decode prog_4_method_8_code 39 = .ok (.invokevirtual 67, 3) := by decide +kernel
theorem d_Pak_addRunSign_42 : decode prog_4_method_8_code 42 = .ok (.return_, 1) := by decide +kernel
abbrev y_Pak_addRunSign : MethodName := ⟨"PicturePacker$Packer", "addRunSign", "(I)V"⟩
def wp_Pak_addRunSign (n : Nat → Nat) (Out_size : Int32) (Out_gathered : Int32) (Out_gatheredBits : Int32) (ob : Nat → Int32) (x1 : Int32) (post : Int32 × Int32 × Int32 × (Nat → Int32) → Prop) : Prop := ((280 : Int32) ≤ x1 → (wp_Out_addBitsHighestFirst n Out_size Out_gathered Out_gatheredBits ob ((192 + x1) - 280) 8 (fun u2 => post (u2.1, u2.2.1, u2.2.2.1, u2.2.2.2)))) ∧ (¬ ((280 : Int32) ≤ x1) → (wp_Out_addBitsHighestFirst n Out_size Out_gathered Out_gatheredBits ob (x1 - 256) 7 (fun u4 => post (u4.1, u4.2.1, u4.2.2.1, u4.2.2.2))))
set_option maxHeartbeats 2000000 in
set_option maxRecDepth 20000 in
theorem c_Pak_addRunSign {l : Launch} {dC : Nat → ClassId} {dI : Nat → Nat → Nat} {cI : ClassId} {tb : Tbs} {a n : Nat → Nat} {Out_size : Int32} {Out_gathered : Int32} {Out_gatheredBits : Int32} {Pak_singles : Int32} {Pak_runs : Int32} {Pak_longest : Int32} {ob : Nat → Int32} {x1 : Int32} {post : Int32 × Int32 × Int32 × (Nat → Int32) → Prop} (h : wp_Pak_addRunSign n Out_size Out_gathered Out_gatheredBits ob x1 post) : CtV classes dC dI cI tb l y_Pak_addRunSign prog_4_method_8_code 2 ({ frames := 4, cells := 0, slots := 0, locals := 85 }) [.ref (a 5), .int x1] [e_Out a Out_size Out_gathered Out_gatheredBits, e_Pak a Pak_singles Pak_runs Pak_longest, e_ar a n cI 11 ob] (Int32 × Int32 × Int32 × (Nat → Int32)) (fun u => [e_Out a u.1 u.2.1 u.2.2.1, e_Pak a Pak_singles Pak_runs Pak_longest, e_ar a n cI 11 u.2.2.2]) post := by
  refine startV (by decide) (Nat.le_of_ble_eq_true rfl) ?_
  intro p e s m below meth c ls E hr hlk hnm hl hw
  have hl : lv_has ls 2 [(0, .ref (a 5)), (1, .int x1)] := hl
  generalize va_A [e_Out a Out_size Out_gathered Out_gatheredBits, e_Pak a Pak_singles Pak_runs Pak_longest, e_ar a n cI 11 ob] s.heap.size = A at hw ⊢
  obtain ⟨hx, hb, hml, hown, hts⟩ := id E
  unfold wp_Pak_addRunSign at h
  refine lv_iload_n hx hb d_Pak_addRunSign_0 rfl (lv_at hl 1 rfl) ?_
  refine lv_sipush (v := 280) hx hb d_Pak_addRunSign_1 (by decide) ?_
  refine lv_icmp_ge (tgt := 24) hx hb d_Pak_addRunSign_4 (by decide) (fun c1 => ?_) (fun c1 => ?_)
  · have h := h.1 c1
    refine lv_aload_n hx hb d_Pak_addRunSign_24 rfl (lv_at hl 0 rfl) ?_
    refine kget (v := .ref (a 3)) (T := F_Pak) E hw in_Pak rfl 1 1 rfl (by decide) tw190 rfl d_Pak_addRunSign_25 ?_
    refine lv_sipush (v := 192) hx hb d_Pak_addRunSign_28 (by decide) ?_
    refine lv_iload_n hx hb d_Pak_addRunSign_31 rfl (lv_at hl 1 rfl) ?_
    refine lv_iadd hx hb d_Pak_addRunSign_32 ?_
    refine lv_sipush (v := 280) hx hb d_Pak_addRunSign_33 (by decide) ?_
    refine lv_isub hx hb d_Pak_addRunSign_36 ?_
    refine lv_bipush (v := 8) hx hb d_Pak_addRunSign_37 (by decide) ?_
    refine kVv (y := y_Out_addBitsHighestFirst) (ws' := fun u2 => [e_Out a u2.1 u2.2.1 u2.2.2.1, e_Pak a Pak_singles Pak_runs Pak_longest, e_ar a n cI 11 u2.2.2.2]) (wr := [e_Pak a Pak_singles Pak_runs Pak_longest]) (As := [.int ((192 + x1) - 280), .int 8]) (rest := []) E hw (c_Out_addBitsHighestFirst (l := l) (dC := dC) (dI := dI) (cI := cI) (tb := tb) (a := a) (n := n) (Out_size := Out_size) (Out_gathered := Out_gathered) (Out_gatheredBits := Out_gatheredBits) (ob := ob) (x1 := (192 + x1) - 280) (x2 := 8) h) tw390 tw391 tw392 tw40 tw393 2 (by decide) ⟨Nat.le_of_ble_eq_true rfl, Nat.le_of_ble_eq_true rfl⟩ ⟨Nat.le_of_ble_eq_true rfl, Nat.le_of_ble_eq_true rfl⟩ ⟨rfl, rfl⟩ rfl rfl 0 rfl [0, 2] [1] [1, 0, 2] rfl rfl rfl rfl (by decide) rfl (fun _ => rfl) hl.1 rfl rfl (Nat.le_of_ble_eq_true rfl) d_Pak_addRunSign_39 (fun u2 H locs h hw => ?_)
    exact retV (out := fun u => [e_Out a u.1 u.2.1 u.2.2.1, e_Pak a Pak_singles Pak_runs Pak_longest, e_ar a n cI 11 u.2.2.2]) (u := (u2.1, u2.2.1, u2.2.2.1, u2.2.2.2)) E hr hlk hw h d_Pak_addRunSign_42
  · have h := h.2 c1
    refine lv_aload_n hx hb d_Pak_addRunSign_7 rfl (lv_at hl 0 rfl) ?_
    refine kget (v := .ref (a 3)) (T := F_Pak) E hw in_Pak rfl 1 1 rfl (by decide) tw190 rfl d_Pak_addRunSign_8 ?_
    refine lv_iload_n hx hb d_Pak_addRunSign_11 rfl (lv_at hl 1 rfl) ?_
    refine lv_sipush (v := 256) hx hb d_Pak_addRunSign_12 (by decide) ?_
    refine lv_isub hx hb d_Pak_addRunSign_15 ?_
    refine lv_bipush (v := 7) hx hb d_Pak_addRunSign_16 (by decide) ?_
    refine kVv (y := y_Out_addBitsHighestFirst) (ws' := fun u4 => [e_Out a u4.1 u4.2.1 u4.2.2.1, e_Pak a Pak_singles Pak_runs Pak_longest, e_ar a n cI 11 u4.2.2.2]) (wr := [e_Pak a Pak_singles Pak_runs Pak_longest]) (As := [.int (x1 - 256), .int 7]) (rest := []) E hw (c_Out_addBitsHighestFirst (l := l) (dC := dC) (dI := dI) (cI := cI) (tb := tb) (a := a) (n := n) (Out_size := Out_size) (Out_gathered := Out_gathered) (Out_gatheredBits := Out_gatheredBits) (ob := ob) (x1 := x1 - 256) (x2 := 7) h) tw390 tw391 tw392 tw40 tw393 2 (by decide) ⟨Nat.le_of_ble_eq_true rfl, Nat.le_of_ble_eq_true rfl⟩ ⟨Nat.le_of_ble_eq_true rfl, Nat.le_of_ble_eq_true rfl⟩ ⟨rfl, rfl⟩ rfl rfl 0 rfl [0, 2] [1] [1, 0, 2] rfl rfl rfl rfl (by decide) rfl (fun _ => rfl) hl.1 rfl rfl (Nat.le_of_ble_eq_true rfl) d_Pak_addRunSign_18 (fun u4 H locs h hw => ?_)
    refine lv_goto (tgt := 42) hx hb d_Pak_addRunSign_21 (by decide) ?_
    exact retV (out := fun u => [e_Out a u.1 u.2.1 u.2.2.1, e_Pak a Pak_singles Pak_runs Pak_longest, e_ar a n cI 11 u.2.2.2]) (u := (u4.1, u4.2.1, u4.2.2.1, u4.2.2.2)) E hr hlk hw h d_Pak_addRunSign_42
-- PicturePacker$Packer.addSingle(I)V
theorem d_Pak_addSingle_0 : decode prog_4_method_3_code 0 = .ok (.aload_n 0, 1) := by decide +kernel
theorem d_Pak_addSingle_1 : decode prog_4_method_3_code 1 = .ok (.dup, 1) := by decide +kernel
theorem d_Pak_addSingle_2 : decode prog_4_method_3_code 2 = .ok (.getfield 26, 3) := by decide +kernel
theorem d_Pak_addSingle_5 : decode prog_4_method_3_code 5 = .ok (.iconst 1, 1) := by decide +kernel
theorem d_Pak_addSingle_6 : decode prog_4_method_3_code 6 = .ok (.iadd, 1) := by decide +kernel
theorem d_Pak_addSingle_7 : decode prog_4_method_3_code 7 = .ok (.putfield 26, 3) := by decide +kernel
theorem d_Pak_addSingle_10 : decode prog_4_method_3_code 10 = .ok (.iload_n 1, 1) := by decide +kernel
theorem d_Pak_addSingle_11 : decode prog_4_method_3_code 11 = .ok (.sipush 144, 3) := by decide +kernel
theorem d_Pak_addSingle_14 : decode prog_4_method_3_code 14 = .ok (.if_icmp .ge 19, 3) := by decide +kernel
theorem d_Pak_addSingle_17 : decode prog_4_method_3_code 17 = .ok (.aload_n 0, 1) := by decide +kernel
theorem d_Pak_addSingle_18 : decode prog_4_method_3_code 18 = .ok (.getfield 13, 3) := by decide +kernel
theorem d_Pak_addSingle_21 : decode prog_4_method_3_code 21 = .ok (.bipush 48, 2) := by decide +kernel
theorem d_Pak_addSingle_23 : decode prog_4_method_3_code 23 = .ok (.iload_n 1, 1) := by decide +kernel
theorem d_Pak_addSingle_24 : decode prog_4_method_3_code 24 = .ok (.iadd, 1) := by decide +kernel
theorem d_Pak_addSingle_25 : decode prog_4_method_3_code 25 = .ok (.bipush 8, 2) := by decide +kernel
theorem d_Pak_addSingle_27 : decode prog_4_method_3_code 27 = .ok (.invokevirtual 67, 3) := by decide +kernel
theorem d_Pak_addSingle_30 : decode prog_4_method_3_code 30 = .ok (.goto 21, 3) := by decide +kernel
theorem d_Pak_addSingle_33 : decode prog_4_method_3_code 33 = .ok (.aload_n 0, 1) := by decide +kernel
theorem d_Pak_addSingle_34 : decode prog_4_method_3_code 34 = .ok (.getfield 13, 3) := by decide +kernel
theorem d_Pak_addSingle_37 : decode prog_4_method_3_code 37 = .ok (.sipush 400, 3) := by decide +kernel
theorem d_Pak_addSingle_40 : decode prog_4_method_3_code 40 = .ok (.iload_n 1, 1) := by decide +kernel
theorem d_Pak_addSingle_41 : decode prog_4_method_3_code 41 = .ok (.iadd, 1) := by decide +kernel
theorem d_Pak_addSingle_42 : decode prog_4_method_3_code 42 = .ok (.sipush 144, 3) := by decide +kernel
theorem d_Pak_addSingle_45 : decode prog_4_method_3_code 45 = .ok (.isub, 1) := by decide +kernel
theorem d_Pak_addSingle_46 : decode prog_4_method_3_code 46 = .ok (.bipush 9, 2) := by decide +kernel
theorem d_Pak_addSingle_48 : decode prog_4_method_3_code 48 = .ok (.invokevirtual 67, 3) := by decide +kernel
theorem d_Pak_addSingle_51 : decode prog_4_method_3_code 51 = .ok (.return_, 1) := by decide +kernel
abbrev y_Pak_addSingle : MethodName := ⟨"PicturePacker$Packer", "addSingle", "(I)V"⟩
def wp_Pak_addSingle (n : Nat → Nat) (Out_size : Int32) (Out_gathered : Int32) (Out_gatheredBits : Int32) (Pak_singles : Int32) (ob : Nat → Int32) (x1 : Int32) (post : Int32 × Int32 × Int32 × Int32 × (Nat → Int32) → Prop) : Prop := ∀ z1 : Int32, z1 = (Pak_singles + 1) → (((144 : Int32) ≤ x1 → (wp_Out_addBitsHighestFirst n Out_size Out_gathered Out_gatheredBits ob ((400 + x1) - 144) 9 (fun u3 => post (u3.1, u3.2.1, u3.2.2.1, z1, u3.2.2.2)))) ∧ (¬ ((144 : Int32) ≤ x1) → (wp_Out_addBitsHighestFirst n Out_size Out_gathered Out_gatheredBits ob (48 + x1) 8 (fun u5 => post (u5.1, u5.2.1, u5.2.2.1, z1, u5.2.2.2)))))
set_option maxHeartbeats 2000000 in
set_option maxRecDepth 20000 in
theorem c_Pak_addSingle {l : Launch} {dC : Nat → ClassId} {dI : Nat → Nat → Nat} {cI : ClassId} {tb : Tbs} {a n : Nat → Nat} {Out_size : Int32} {Out_gathered : Int32} {Out_gatheredBits : Int32} {Pak_singles : Int32} {Pak_runs : Int32} {Pak_longest : Int32} {ob : Nat → Int32} {x1 : Int32} {post : Int32 × Int32 × Int32 × Int32 × (Nat → Int32) → Prop} (h : wp_Pak_addSingle n Out_size Out_gathered Out_gatheredBits Pak_singles ob x1 post) : CtV classes dC dI cI tb l y_Pak_addSingle prog_4_method_3_code 2 ({ frames := 4, cells := 0, slots := 0, locals := 85 }) [.ref (a 5), .int x1] [e_Out a Out_size Out_gathered Out_gatheredBits, e_Pak a Pak_singles Pak_runs Pak_longest, e_ar a n cI 11 ob] (Int32 × Int32 × Int32 × Int32 × (Nat → Int32)) (fun u => [e_Out a u.1 u.2.1 u.2.2.1, e_Pak a u.2.2.2.1 Pak_runs Pak_longest, e_ar a n cI 11 u.2.2.2.2]) post := by
  refine startV (by decide) (Nat.le_of_ble_eq_true rfl) ?_
  intro p e s m below meth c ls E hr hlk hnm hl hw
  have hl : lv_has ls 2 [(0, .ref (a 5)), (1, .int x1)] := hl
  generalize va_A [e_Out a Out_size Out_gathered Out_gatheredBits, e_Pak a Pak_singles Pak_runs Pak_longest, e_ar a n cI 11 ob] s.heap.size = A at hw ⊢
  obtain ⟨hx, hb, hml, hown, hts⟩ := id E
  unfold wp_Pak_addSingle at h
  refine lv_aload_n hx hb d_Pak_addSingle_0 rfl (lv_at hl 0 rfl) ?_
  refine lv_dup hx hb d_Pak_addSingle_1 rfl ?_
  refine kget (v := .int Pak_singles) (T := F_Pak) E hw in_Pak rfl 1 3 rfl (by decide) tw192 rfl d_Pak_addSingle_2 ?_
  refine lv_iconst (v := 1) hx hb d_Pak_addSingle_5 (by decide) ?_
  refine lv_iadd hx hb d_Pak_addSingle_6 ?_
  refine lv_topi (fun z1 ez1 => ?_)
  have h := h z1 ez1
  refine kput (v := .int z1) (ty := .int) (T := F_Pak) (ws' := [e_Out a Out_size Out_gathered Out_gatheredBits, e_Pak a z1 Pak_runs Pak_longest, e_ar a n cI 11 ob]) E hw in_Pak t_Pak t_Pak_ok n_Pak rfl 1 3 rfl (by decide) tw192 rfl rfl rfl rfl (Nat.le_of_ble_eq_true rfl) rfl d_Pak_addSingle_7 (fun H locs hw => ?_)
  refine lv_iload_n hx hb d_Pak_addSingle_10 rfl (lv_at hl 1 rfl) ?_
  refine lv_sipush (v := 144) hx hb d_Pak_addSingle_11 (by decide) ?_
  refine lv_icmp_ge (tgt := 33) hx hb d_Pak_addSingle_14 (by decide) (fun c2 => ?_) (fun c2 => ?_)
  · have h := h.1 c2
    refine lv_aload_n hx hb d_Pak_addSingle_33 rfl (lv_at hl 0 rfl) ?_
    refine kget (v := .ref (a 3)) (T := F_Pak) E hw in_Pak rfl 1 1 rfl (by decide) tw190 rfl d_Pak_addSingle_34 ?_
    refine lv_sipush (v := 400) hx hb d_Pak_addSingle_37 (by decide) ?_
    refine lv_iload_n hx hb d_Pak_addSingle_40 rfl (lv_at hl 1 rfl) ?_
    refine lv_iadd hx hb d_Pak_addSingle_41 ?_
    refine lv_sipush (v := 144) hx hb d_Pak_addSingle_42 (by decide) ?_
    refine lv_isub hx hb d_Pak_addSingle_45 ?_
    refine lv_bipush (v := 9) hx hb d_Pak_addSingle_46 (by decide) ?_
    refine kVv (y := y_Out_addBitsHighestFirst) (ws' := fun u3 => [e_Out a u3.1 u3.2.1 u3.2.2.1, e_Pak a z1 Pak_runs Pak_longest, e_ar a n cI 11 u3.2.2.2]) (wr := [e_Pak a z1 Pak_runs Pak_longest]) (As := [.int ((400 + x1) - 144), .int 9]) (rest := []) E hw (c_Out_addBitsHighestFirst (l := l) (dC := dC) (dI := dI) (cI := cI) (tb := tb) (a := a) (n := n) (Out_size := Out_size) (Out_gathered := Out_gathered) (Out_gatheredBits := Out_gatheredBits) (ob := ob) (x1 := (400 + x1) - 144) (x2 := 9) h) tw390 tw391 tw392 tw40 tw393 2 (by decide) ⟨Nat.le_of_ble_eq_true rfl, Nat.le_of_ble_eq_true rfl⟩ ⟨Nat.le_of_ble_eq_true rfl, Nat.le_of_ble_eq_true rfl⟩ ⟨rfl, rfl⟩ rfl rfl 0 rfl [0, 2] [1] [1, 0, 2] rfl rfl rfl rfl (by decide) rfl (fun _ => rfl) hl.1 rfl rfl (Nat.le_of_ble_eq_true rfl) d_Pak_addSingle_48 (fun u3 H locs h hw => ?_)
    exact retV (out := fun u => [e_Out a u.1 u.2.1 u.2.2.1, e_Pak a u.2.2.2.1 Pak_runs Pak_longest, e_ar a n cI 11 u.2.2.2.2]) (u := (u3.1, u3.2.1, u3.2.2.1, z1, u3.2.2.2)) E hr hlk hw h d_Pak_addSingle_51
  · have h := h.2 c2
    refine lv_aload_n hx hb d_Pak_addSingle_17 rfl (lv_at hl 0 rfl) ?_
    refine kget (v := .ref (a 3)) (T := F_Pak) E hw in_Pak rfl 1 1 rfl (by decide) tw190 rfl d_Pak_addSingle_18 ?_
    refine lv_bipush (v := 48) hx hb d_Pak_addSingle_21 (by decide) ?_
    refine lv_iload_n hx hb d_Pak_addSingle_23 rfl (lv_at hl 1 rfl) ?_
    refine lv_iadd hx hb d_Pak_addSingle_24 ?_
    refine lv_bipush (v := 8) hx hb d_Pak_addSingle_25 (by decide) ?_
    refine kVv (y := y_Out_addBitsHighestFirst) (ws' := fun u5 => [e_Out a u5.1 u5.2.1 u5.2.2.1, e_Pak a z1 Pak_runs Pak_longest, e_ar a n cI 11 u5.2.2.2]) (wr := [e_Pak a z1 Pak_runs Pak_longest]) (As := [.int (48 + x1), .int 8]) (rest := []) E hw (c_Out_addBitsHighestFirst (l := l) (dC := dC) (dI := dI) (cI := cI) (tb := tb) (a := a) (n := n) (Out_size := Out_size) (Out_gathered := Out_gathered) (Out_gatheredBits := Out_gatheredBits) (ob := ob) (x1 := 48 + x1) (x2 := 8) h) tw390 tw391 tw392 tw40 tw393 2 (by decide) ⟨Nat.le_of_ble_eq_true rfl, Nat.le_of_ble_eq_true rfl⟩ ⟨Nat.le_of_ble_eq_true rfl, Nat.le_of_ble_eq_true rfl⟩ ⟨rfl, rfl⟩ rfl rfl 0 rfl [0, 2] [1] [1, 0, 2] rfl rfl rfl rfl (by decide) rfl (fun _ => rfl) hl.1 rfl rfl (Nat.le_of_ble_eq_true rfl) d_Pak_addSingle_27 (fun u5 H locs h hw => ?_)
    refine lv_goto (tgt := 51) hx hb d_Pak_addSingle_30 (by decide) ?_
    exact retV (out := fun u => [e_Out a u.1 u.2.1 u.2.2.1, e_Pak a u.2.2.2.1 Pak_runs Pak_longest, e_ar a n cI 11 u.2.2.2.2]) (u := (u5.1, u5.2.1, u5.2.2.1, z1, u5.2.2.2)) E hr hlk hw h d_Pak_addSingle_51
-- PicturePacker$Packer.addLongLength(I)V
theorem d_Pak_addLongLength_0 : decode prog_4_method_6_code 0 = .ok (.iconst 1, 1) := by decide +kernel
theorem d_Pak_addLongLength_1 : decode prog_4_method_6_code 1 = .ok (.istore_n 2, 1) := by decide +kernel
theorem d_Pak_addLongLength_2 : decode prog_4_method_6_code 2 = .ok (.bipush 11, 2) := by decide +kernel
theorem d_Pak_addLongLength_4 : decode prog_4_method_6_code 4 = .ok (.istore_n 3, 1) := by decide +kernel
theorem d_Pak_addLongLength_5 : decode prog_4_method_6_code 5 = .ok (.iload_n 2, 1) := by decide +kernel
theorem d_Pak_addLongLength_6 : decode prog_4_method_6_code 6 = .ok (.iconst 5, 1) := by decide +kernel
theorem d_Pak_addLongLength_7 : decode prog_4_method_6_code 7 = .ok (.if_icmp .ge 24, 3) := by decide +kernel
theorem d_Pak_addLongLength_10 : decode prog_4_method_6_code 10 = .ok (.iload_n 1, 1) := by decide +kernel
theorem d_Pak_addLongLength_11 : decode prog_4_method_6_code 11 = .ok (.iload_n 3, 1) := by decide +kernel
theorem d_Pak_addLongLength_12 : decode prog_4_method_6_code 12 = .ok (.iconst 4, 1) := by decide +kernel
theorem d_Pak_addLongLength_13 : decode prog_4_method_6_code 13 = .ok (.iload_n 2, 1) := by decide +kernel
theorem d_Pak_addLongLength_14 : decode prog_4_method_6_code 14 = .ok (.ishl, 1) := by decide +kernel
theorem d_Pak_addLongLength_15 : decode prog_4_method_6_code 15 = .ok (.iadd, 1) := by decide +kernel
theorem d_Pak_addLongLength_16 : decode prog_4_method_6_code 16 = .ok (.if_icmp .lt 15, 3) := by decide +kernel
theorem d_Pak_addLongLength_19 : decode prog_4_method_6_code 19 = .ok (.iload_n 3, 1) := by decide +kernel
theorem d_Pak_addLongLength_20 : decode prog_4_method_6_code 20 = .ok (.iconst 4, 1) := by decide +kernel
theorem d_Pak_addLongLength_21 : decode prog_4_method_6_code 21 = .ok (.iload_n 2, 1) := by decide +kernel
theorem d_Pak_addLongLength_22 : decode prog_4_method_6_code 22 = .ok (.ishl, 1) := by decide +kernel
theorem d_Pak_addLongLength_23 : decode prog_4_method_6_code 23 = .ok (.iadd, 1) := by decide +kernel
theorem d_Pak_addLongLength_24 : decode prog_4_method_6_code 24 = .ok (.istore_n 3, 1) := by decide +kernel
theorem d_Pak_addLongLength_25 : decode prog_4_method_6_code 25 = .ok (.iinc 2 1, 3) := by decide +kernel
theorem d_Pak_addLongLength_28 : decode prog_4_method_6_code 28 = .ok (.goto (-23), 3) := by decide +kernel
theorem d_Pak_addLongLength_31 : decode prog_4_method_6_code 31 = .ok (.aload_n 0, 1) := by decide +kernel
theorem d_Pak_addLongLength_32 : decode prog_4_method_6_code 32 = .ok (.sipush 265, 3) := by decide +kernel
theorem d_Pak_addLongLength_35 : decode prog_4_method_6_code 35 = .ok (.iconst 4, 1) := by decide +kernel
theorem d_Pak_addLongLength_36 : decode prog_4_method_6_code 36 = .ok (.iload_n 2, 1) := by decide +kernel
theorem d_Pak_addLongLength_37 : decode prog_4_method_6_code 37 = .ok (.iconst 1, 1) := by decide +kernel
theorem d_Pak_addLongLength_38 : decode prog_4_method_6_code 38 = .ok (.isub, 1) := by decide +kernel
theorem d_Pak_addLongLength_39 : decode prog_4_method_6_code 39 = .ok (.imul, 1) := by decide +kernel
theorem d_Pak_addLongLength_40 : decode prog_4_method_6_code 40 = .ok (.iadd, 1) := by decide +kernel
theorem d_Pak_addLongLength_41 : decode prog_4_method_6_code 41 = .ok (.iload_n 1, 1) := by decide +kernel
theorem d_Pak_addLongLength_42 : decode prog_4_method_6_code 42 = .ok (.iload_n 3, 1) := by decide +kernel
theorem d_Pak_addLongLength_43 : decode prog_4_method_6_code 43 = .ok (.isub, 1) := by decide +kernel
theorem d_Pak_addLongLength_44 : decode prog_4_method_6_code 44 = .ok (.iload_n 2, 1) := by decide +kernel
theorem d_Pak_addLongLength_45 : decode prog_4_method_6_code 45 = .ok (.ishr, 1) := by decide +kernel
theorem d_Pak_addLongLength_46 : decode prog_4_method_6_code 46 = .ok (.iadd, 1) := by decide +kernel
theorem d_Pak_addLongLength_47 : decode prog_4_method_6_code 47 = .ok (.invokevirtual 61, 3) := by decide +kernel
theorem d_Pak_addLongLength_50 : decode prog_4_method_6_code 50 = .ok (.aload_n 0, 1) := by decide +kernel
theorem d_Pak_addLongLength_51 : decode prog_4_method_6_code 51 = .ok (.getfield 13, 3) := by decide +kernel
theorem d_Pak_addLongLength_54 : decode prog_4_method_6_code 54 = .ok (.iload_n 1, 1) := by decide +kernel
theorem d_Pak_addLongLength_55 : decode prog_4_method_6_code 55 = .ok (.iload_n 3, 1) := by decide +kernel
theorem d_Pak_addLongLength_56 : decode prog_4_method_6_code 56 = .ok (.isub, 1) := by decide +kernel
theorem d_Pak_addLongLength_57 : decode prog_4_method_6_code 57 = .ok (.iload_n 2, 1) := by decide +kernel
theorem d_Pak_addLongLength_58 : decode prog_4_method_6_code 58 = .ok (.invokevirtual 39, 3) := by decide +kernel
theorem d_Pak_addLongLength_61 : decode prog_4_method_6_code 61 = .ok (.return_, 1) := by decide +kernel
abbrev y_Pak_addLongLength : MethodName := ⟨"PicturePacker$Packer", "addLongLength", "(I)V"⟩
def wp_Pak_addLongLength_31 (n : Nat → Nat) (x1 : Int32) (post : Int32 × Int32 × Int32 × (Nat → Int32) → Prop) (Out_size : Int32) (Out_gathered : Int32) (Out_gatheredBits : Int32) (ob : Nat → Int32) (y2 : Int32) (y3 : Int32) : Prop := wp_Pak_addRunSign n Out_size Out_gathered Out_gatheredBits ob ((265 + (4 * (y2 - 1))) + ((x1 - y3 : Int32) >>> (y2 &&& 31))) (fun u2 => wp_Out_addBitsLowestFirst n u2.1 u2.2.1 u2.2.2.1 u2.2.2.2 (x1 - y3) y2 (fun u4 => post (u4.1, u4.2.1, u4.2.2.1, u4.2.2.2)))
def wp_Pak_addLongLength_5 (n : Nat → Nat) (x1 : Int32) (post : Int32 × Int32 × Int32 × (Nat → Int32) → Prop) : Nat → Int32 → Int32 → Int32 → (Nat → Int32) → Int32 → Int32 → Prop
  | 0 => fun _ _ _ _ _ _ => False
  | N + 1 => fun Out_size Out_gathered Out_gatheredBits ob y2 y3 => ((5 : Int32) ≤ y2 → (wp_Pak_addLongLength_31 n x1 post Out_size Out_gathered Out_gatheredBits ob y2 y3)) ∧ (¬ ((5 : Int32) ≤ y2) → (((x1 : Int32) < (y3 + ((4 : Int32) <<< (y2 &&& 31))) → (wp_Pak_addLongLength_31 n x1 post Out_size Out_gathered Out_gatheredBits ob y2 y3)) ∧ (¬ ((x1 : Int32) < (y3 + ((4 : Int32) <<< (y2 &&& 31)))) → (∀ z7 : Int32, z7 = (y3 + ((4 : Int32) <<< (y2 &&& 31))) → (∀ z8 : Int32, z8 = (y2 + 1) → (wp_Pak_addLongLength_5 n x1 post N Out_size Out_gathered Out_gatheredBits ob z8 z7))))))
def wp_Pak_addLongLength (n : Nat → Nat) (Out_size : Int32) (Out_gathered : Int32) (Out_gatheredBits : Int32) (ob : Nat → Int32) (x1 : Int32) (post : Int32 × Int32 × Int32 × (Nat → Int32) → Prop) : Prop := ∃ N9 : Nat, wp_Pak_addLongLength_5 n x1 post N9 Out_size Out_gathered Out_gatheredBits ob 1 11
set_option maxHeartbeats 2000000 in
set_option maxRecDepth 20000 in
theorem s_Pak_addLongLength_31 {l : Launch} {dC : Nat → ClassId} {dI : Nat → Nat → Nat} {cI : ClassId} {tb : Tbs} {a n : Nat → Nat} {p : Program} {e : Env} {s : State} {m : MethodId} {args : Array Value} {below : List Frame} {meth : Method} {c : Code} {A : Nat → Prop} (E : CallFix p m c prog_4_method_6_code 4 s args TBL "PicturePacker$Packer") (hr : meth.sig.returnType = none) (hlk : meth.locks = false) {Pak_singles : Int32} {Pak_runs : Int32} {Pak_longest : Int32} {x1 : Int32} {post : Int32 × Int32 × Int32 × (Nat → Int32) → Prop} : ∀ (Out_size : Int32) (Out_gathered : Int32) (Out_gatheredBits : Int32) (ob : Nat → Int32) (y2 : Int32) (y3 : Int32) (H : Heap) (locs : List Loc) (ls : Array Slot), Wl classes dC dI cI tb A s H locs [e_Out a Out_size Out_gathered Out_gatheredBits, e_Pak a Pak_singles Pak_runs Pak_longest, e_ar a n cI 11 ob] → lv_has ls 4 [(0, .ref (a 5)), (1, .int x1), (2, .int y2), (3, .int y3)] → wp_Pak_addLongLength_31 n x1 post Out_size Out_gathered Out_gatheredBits ob y2 y3 → W p l e ({ frames := 5, cells := 0, slots := 0, locals := 106 }) s m args below meth c H locs 0 0 (MQ below (va_Qv post (fun u => End0 classes dC dI cI A [e_Out a u.1 u.2.1 u.2.2.1, e_Pak a Pak_singles Pak_runs Pak_longest, e_ar a n cI 11 u.2.2.2]) A) args s 0 0 A) (F0 m 31 ls []) := by
  obtain ⟨hx, hb, hml, hown, hts⟩ := id E
  intro Out_size Out_gathered Out_gatheredBits ob y2 y3 H locs ls hw hl h
  unfold wp_Pak_addLongLength_31 at h
  refine lv_aload_n hx hb d_Pak_addLongLength_31 rfl (lv_at hl 0 rfl) ?_
  refine lv_sipush (v := 265) hx hb d_Pak_addLongLength_32 (by decide) ?_
  refine lv_iconst (v := 4) hx hb d_Pak_addLongLength_35 (by decide) ?_
  refine lv_iload_n hx hb d_Pak_addLongLength_36 rfl (lv_at hl 2 rfl) ?_
  refine lv_iconst (v := 1) hx hb d_Pak_addLongLength_37 (by decide) ?_
  refine lv_isub hx hb d_Pak_addLongLength_38 ?_
  refine lv_imul hx hb d_Pak_addLongLength_39 ?_
  refine lv_iadd hx hb d_Pak_addLongLength_40 ?_
  refine lv_iload_n hx hb d_Pak_addLongLength_41 rfl (lv_at hl 1 rfl) ?_
  refine lv_iload_n hx hb d_Pak_addLongLength_42 rfl (lv_at hl 3 rfl) ?_
  refine lv_isub hx hb d_Pak_addLongLength_43 ?_
  refine lv_iload_n hx hb d_Pak_addLongLength_44 rfl (lv_at hl 2 rfl) ?_
  refine lv_ishr hx hb d_Pak_addLongLength_45 ?_
  refine lv_iadd hx hb d_Pak_addLongLength_46 ?_
  refine kVv (y := y_Pak_addRunSign) (ws' := fun u2 => [e_Out a u2.1 u2.2.1 u2.2.2.1, e_Pak a Pak_singles Pak_runs Pak_longest, e_ar a n cI 11 u2.2.2.2]) (wr := []) (As := [.int ((265 + (4 * (y2 - 1))) + ((x1 - y3 : Int32) >>> (y2 &&& 31)))]) (rest := []) E hw (c_Pak_addRunSign (l := l) (dC := dC) (dI := dI) (cI := cI) (tb := tb) (a := a) (n := n) (Out_size := Out_size) (Out_gathered := Out_gathered) (Out_gatheredBits := Out_gatheredBits) (Pak_singles := Pak_singles) (Pak_runs := Pak_runs) (Pak_longest := Pak_longest) (ob := ob) (x1 := (265 + (4 * (y2 - 1))) + ((x1 - y3 : Int32) >>> (y2 &&& 31))) h) tw386 tw388 tw12 tw42 tw389 1 (by decide) ⟨Nat.le_of_ble_eq_true rfl, Nat.le_of_ble_eq_true rfl⟩ ⟨Nat.le_of_ble_eq_true rfl, Nat.le_of_ble_eq_true rfl⟩ ⟨rfl, rfl⟩ rfl rfl 1 rfl [0, 1, 2] [] [0, 1, 2] rfl rfl rfl rfl (by decide) rfl (fun _ => rfl) hl.1 rfl rfl (Nat.le_of_ble_eq_true rfl) d_Pak_addLongLength_47 (fun u2 H locs h hw => ?_)
  refine lv_aload_n hx hb d_Pak_addLongLength_50 rfl (lv_at hl 0 rfl) ?_
  refine kget (v := .ref (a 3)) (T := F_Pak) E hw in_Pak rfl 1 1 rfl (by decide) tw190 rfl d_Pak_addLongLength_51 ?_
  refine lv_iload_n hx hb d_Pak_addLongLength_54 rfl (lv_at hl 1 rfl) ?_
  refine lv_iload_n hx hb d_Pak_addLongLength_55 rfl (lv_at hl 3 rfl) ?_
  refine lv_isub hx hb d_Pak_addLongLength_56 ?_
  refine lv_iload_n hx hb d_Pak_addLongLength_57 rfl (lv_at hl 2 rfl) ?_
  refine kVv (y := y_Out_addBitsLowestFirst) (ws' := fun u4 => [e_Out a u4.1 u4.2.1 u4.2.2.1, e_Pak a Pak_singles Pak_runs Pak_longest, e_ar a n cI 11 u4.2.2.2]) (wr := [e_Pak a Pak_singles Pak_runs Pak_longest]) (As := [.int (x1 - y3), .int y2]) (rest := []) E hw (c_Out_addBitsLowestFirst (l := l) (dC := dC) (dI := dI) (cI := cI) (tb := tb) (a := a) (n := n) (Out_size := u2.1) (Out_gathered := u2.2.1) (Out_gatheredBits := u2.2.2.1) (ob := u2.2.2.2) (x1 := x1 - y3) (x2 := y2) h) tw348 tw349 tw350 tw40 tw351 2 (by decide) ⟨Nat.le_of_ble_eq_true rfl, Nat.le_of_ble_eq_true rfl⟩ ⟨Nat.le_of_ble_eq_true rfl, Nat.le_of_ble_eq_true rfl⟩ ⟨rfl, rfl⟩ rfl rfl 0 rfl [0, 2] [1] [1, 0, 2] rfl rfl rfl rfl (by decide) rfl (fun _ => rfl) hl.1 rfl rfl (Nat.le_of_ble_eq_true rfl) d_Pak_addLongLength_58 (fun u4 H locs h hw => ?_)
  exact retV (out := fun u => [e_Out a u.1 u.2.1 u.2.2.1, e_Pak a Pak_singles Pak_runs Pak_longest, e_ar a n cI 11 u.2.2.2]) (u := (u4.1, u4.2.1, u4.2.2.1, u4.2.2.2)) E hr hlk hw h d_Pak_addLongLength_61
set_option maxHeartbeats 2000000 in
set_option maxRecDepth 20000 in
theorem s_Pak_addLongLength_5 {l : Launch} {dC : Nat → ClassId} {dI : Nat → Nat → Nat} {cI : ClassId} {tb : Tbs} {a n : Nat → Nat} {p : Program} {e : Env} {s : State} {m : MethodId} {args : Array Value} {below : List Frame} {meth : Method} {c : Code} {A : Nat → Prop} (E : CallFix p m c prog_4_method_6_code 4 s args TBL "PicturePacker$Packer") (hr : meth.sig.returnType = none) (hlk : meth.locks = false) {Pak_singles : Int32} {Pak_runs : Int32} {Pak_longest : Int32} {x1 : Int32} {post : Int32 × Int32 × Int32 × (Nat → Int32) → Prop} : ∀ (N : Nat) (Out_size : Int32) (Out_gathered : Int32) (Out_gatheredBits : Int32) (ob : Nat → Int32) (y2 : Int32) (y3 : Int32) (H : Heap) (locs : List Loc) (ls : Array Slot), Wl classes dC dI cI tb A s H locs [e_Out a Out_size Out_gathered Out_gatheredBits, e_Pak a Pak_singles Pak_runs Pak_longest, e_ar a n cI 11 ob] → lv_has ls 4 [(0, .ref (a 5)), (1, .int x1), (2, .int y2), (3, .int y3)] → wp_Pak_addLongLength_5 n x1 post N Out_size Out_gathered Out_gatheredBits ob y2 y3 → W p l e ({ frames := 5, cells := 0, slots := 0, locals := 106 }) s m args below meth c H locs 0 0 (MQ below (va_Qv post (fun u => End0 classes dC dI cI A [e_Out a u.1 u.2.1 u.2.2.1, e_Pak a Pak_singles Pak_runs Pak_longest, e_ar a n cI 11 u.2.2.2]) A) args s 0 0 A) (F0 m 5 ls []) := by
  obtain ⟨hx, hb, hml, hown, hts⟩ := id E
  intro N
  induction N with
  | zero =>
    intro _ _ _ _ _ _ H locs ls hw hl h
    exact absurd h id
  | succ N ih =>
    intro Out_size Out_gathered Out_gatheredBits ob y2 y3 H locs ls hw hl h
    unfold wp_Pak_addLongLength_5 at h
    refine lv_iload_n hx hb d_Pak_addLongLength_5 rfl (lv_at hl 2 rfl) ?_
    refine lv_iconst (v := 5) hx hb d_Pak_addLongLength_6 (by decide) ?_
    refine lv_icmp_ge (tgt := 31) hx hb d_Pak_addLongLength_7 (by decide) (fun c1 => ?_) (fun c1 => ?_)
    · have h := h.1 c1
      exact s_Pak_addLongLength_31 (a := a) (n := n) (tb := tb) E hr hlk  Out_size Out_gathered Out_gatheredBits ob y2 y3 _ _ ls hw (lv_sub hl [0, 1, 2, 3] rfl) h
    · have h := h.2 c1
      refine lv_iload_n hx hb d_Pak_addLongLength_10 rfl (lv_at hl 1 rfl) ?_
      refine lv_iload_n hx hb d_Pak_addLongLength_11 rfl (lv_at hl 3 rfl) ?_
      refine lv_iconst (v := 4) hx hb d_Pak_addLongLength_12 (by decide) ?_
      refine lv_iload_n hx hb d_Pak_addLongLength_13 rfl (lv_at hl 2 rfl) ?_
      refine lv_ishl hx hb d_Pak_addLongLength_14 ?_
      refine lv_iadd hx hb d_Pak_addLongLength_15 ?_
      refine lv_icmp_lt (tgt := 31) hx hb d_Pak_addLongLength_16 (by decide) (fun c6 => ?_) (fun c6 => ?_)
      · have h := h.1 c6
        exact s_Pak_addLongLength_31 (a := a) (n := n) (tb := tb) E hr hlk  Out_size Out_gathered Out_gatheredBits ob y2 y3 _ _ ls hw (lv_sub hl [0, 1, 2, 3] rfl) h
      · have h := h.2 c6
        refine lv_iload_n hx hb d_Pak_addLongLength_19 rfl (lv_at hl 3 rfl) ?_
        refine lv_iconst (v := 4) hx hb d_Pak_addLongLength_20 (by decide) ?_
        refine lv_iload_n hx hb d_Pak_addLongLength_21 rfl (lv_at hl 2 rfl) ?_
        refine lv_ishl hx hb d_Pak_addLongLength_22 ?_
        refine lv_iadd hx hb d_Pak_addLongLength_23 ?_
        refine lv_topi (fun z7 ez7 => ?_)
        have h := h z7 ez7
        refine lv_istore_n (lv' := [(3, .int z7), (0, .ref (a 5)), (1, .int x1), (2, .int y2)]) hx hb d_Pak_addLongLength_24 rfl hl (by decide) rfl (fun ls hl => ?_)
        obtain ⟨z8, ez8⟩ : ∃ z : Int32, z = y2 + 1 := ⟨_, rfl⟩
        have h := h z8 ez8
        refine lv_iinc (v := z8) (lv' := [(2, .int z8), (3, .int z7), (0, .ref (a 5)), (1, .int x1)]) hx hb d_Pak_addLongLength_25 hl (k := 3) rfl (by rw [ez8]; exact congrArg (y2 + ·) (by decide)) (by decide) rfl (fun ls hl => ?_)
        refine lv_goto (tgt := 5) hx hb d_Pak_addLongLength_28 (by decide) ?_
        exact ih Out_size Out_gathered Out_gatheredBits ob z8 z7 _ _ ls hw (lv_sub hl [2, 3, 0, 1] rfl) h
set_option maxHeartbeats 2000000 in
set_option maxRecDepth 20000 in
theorem c_Pak_addLongLength {l : Launch} {dC : Nat → ClassId} {dI : Nat → Nat → Nat} {cI : ClassId} {tb : Tbs} {a n : Nat → Nat} {Out_size : Int32} {Out_gathered : Int32} {Out_gatheredBits : Int32} {Pak_singles : Int32} {Pak_runs : Int32} {Pak_longest : Int32} {ob : Nat → Int32} {x1 : Int32} {post : Int32 × Int32 × Int32 × (Nat → Int32) → Prop} (h : wp_Pak_addLongLength n Out_size Out_gathered Out_gatheredBits ob x1 post) : CtV classes dC dI cI tb l y_Pak_addLongLength prog_4_method_6_code 4 ({ frames := 5, cells := 0, slots := 0, locals := 106 }) [.ref (a 5), .int x1] [e_Out a Out_size Out_gathered Out_gatheredBits, e_Pak a Pak_singles Pak_runs Pak_longest, e_ar a n cI 11 ob] (Int32 × Int32 × Int32 × (Nat → Int32)) (fun u => [e_Out a u.1 u.2.1 u.2.2.1, e_Pak a Pak_singles Pak_runs Pak_longest, e_ar a n cI 11 u.2.2.2]) post := by
  refine startV (by decide) (Nat.le_of_ble_eq_true rfl) ?_
  intro p e s m below meth c ls E hr hlk hnm hl hw
  have hl : lv_has ls 4 [(0, .ref (a 5)), (1, .int x1)] := hl
  generalize va_A [e_Out a Out_size Out_gathered Out_gatheredBits, e_Pak a Pak_singles Pak_runs Pak_longest, e_ar a n cI 11 ob] s.heap.size = A at hw ⊢
  obtain ⟨hx, hb, hml, hown, hts⟩ := id E
  unfold wp_Pak_addLongLength at h
  refine lv_iconst (v := 1) hx hb d_Pak_addLongLength_0 (by decide) ?_
  refine lv_istore_n (lv' := [(2, .int 1), (0, .ref (a 5)), (1, .int x1)]) hx hb d_Pak_addLongLength_1 rfl hl (by decide) rfl (fun ls hl => ?_)
  refine lv_bipush (v := 11) hx hb d_Pak_addLongLength_2 (by decide) ?_
  refine lv_istore_n (lv' := [(3, .int 11), (2, .int 1), (0, .ref (a 5)), (1, .int x1)]) hx hb d_Pak_addLongLength_4 rfl hl (by decide) rfl (fun ls hl => ?_)
  obtain ⟨N9, h⟩ := h
  exact s_Pak_addLongLength_5 (a := a) (n := n) (tb := tb) E hr hlk  N9 Out_size Out_gathered Out_gatheredBits ob 1 11 _ _ ls hw (lv_sub hl [2, 3, 1, 0] rfl) h
-- PicturePacker$Packer.addLength(I)V
theorem d_Pak_addLength_0 : decode prog_4_method_5_code 0 = .ok (.iload_n 1, 1) := by decide +kernel
theorem d_Pak_addLength_1 : decode prog_4_method_5_code 1 = .ok (.bipush 11, 2) := by decide +kernel
theorem d_Pak_addLength_3 : decode prog_4_method_5_code 3 = .ok (.if_icmp .ge 17, 3) := by decide +kernel
theorem d_Pak_addLength_6 : decode prog_4_method_5_code 6 = .ok (.aload_n 0, 1) := by decide +kernel
theorem d_Pak_addLength_7 : decode prog_4_method_5_code 7 = .ok (.sipush 257, 3) := by decide +kernel
theorem d_Pak_addLength_10 : decode prog_4_method_5_code 10 = .ok (.iload_n 1, 1) := by decide +kernel
theorem d_Pak_addLength_11 : decode prog_4_method_5_code 11 = .ok (.iadd, 1) := by decide +kernel
theorem d_Pak_addLength_12 : decode prog_4_method_5_code 12 = .ok (.iconst 3, 1) := by decide +kernel
theorem d_Pak_addLength_13 : decode prog_4_method_5_code 13 = .ok (.isub, 1) := by decide +kernel
theorem d_Pak_addLength_14 : decode prog_4_method_5_code 14 = .ok (.invokevirtual 61, 3) := by decide +kernel
theorem d_Pak_addLength_17 : decode prog_4_method_5_code 17 = .ok (.goto 25, 3) := by decide +kernel
theorem d_Pak_addLength_20 : decode prog_4_method_5_code 20 = .ok (.iload_n 1, 1) := by decide +kernel
theorem d_Pak_addLength_21 : decode prog_4_method_5_code 21 = .ok (.sipush 258, 3) := by decide +kernel
theorem d_Pak_addLength_24 : decode prog_4_method_5_code 24 = .ok (.if_icmp .ne 13, 3) := by decide +kernel
theorem d_Pak_addLength_27 : decode prog_4_method_5_code 27 = .ok (.aload_n 0, 1) := by decide +kernel
theorem d_Pak_addLength_28 : decode prog_4_method_5_code 28 = .ok (.sipush 285, 3) := by decide +kernel
theorem d_Pak_addLength_31 : decode prog_4_method_5_code 31 = .ok (.invokevirtual 61, 3) := by decide +kernel
theorem d_Pak_addLength_34 : decode prog_4_method_5_code 34 = .ok (.goto 8, 3) := by decide +kernel
theorem d_Pak_addLength_37 : decode prog_4_method_5_code 37 = .ok (.aload_n 0, 1) := by decide +kernel
theorem d_Pak_addLength_38 : decode prog_4_method_5_code 38 = .ok (.iload_n 1, 1) := by decide +kernel
theorem d_Pak_addLength_39 : decode prog_4_method_5_code 39 = .ok (.invokevirtual 82, 3) := by decide +kernel
theorem d_Pak_addLength_42 : decode prog_4_method_5_code 42 = .ok (.return_, 1) := by decide +kernel
abbrev y_Pak_addLength : MethodName := ⟨"PicturePacker$Packer", "addLength", "(I)V"⟩
def wp_Pak_addLength (n : Nat → Nat) (Out_size : Int32) (Out_gathered : Int32) (Out_gatheredBits : Int32) (ob : Nat → Int32) (x1 : Int32) (post : Int32 × Int32 × Int32 × (Nat → Int32) → Prop) : Prop := ((11 : Int32) ≤ x1 → ((¬ (x1 : Int32) = 258 → (wp_Pak_addLongLength n Out_size Out_gathered Out_gatheredBits ob x1 (fun u3 => post (u3.1, u3.2.1, u3.2.2.1, u3.2.2.2)))) ∧ ((x1 : Int32) = 258 → (wp_Pak_addRunSign n Out_size Out_gathered Out_gatheredBits ob 285 (fun u5 => post (u5.1, u5.2.1, u5.2.2.1, u5.2.2.2)))))) ∧ (¬ ((11 : Int32) ≤ x1) → (wp_Pak_addRunSign n Out_size Out_gathered Out_gatheredBits ob ((257 + x1) - 3) (fun u7 => post (u7.1, u7.2.1, u7.2.2.1, u7.2.2.2))))
set_option maxHeartbeats 2000000 in
set_option maxRecDepth 20000 in
theorem c_Pak_addLength {l : Launch} {dC : Nat → ClassId} {dI : Nat → Nat → Nat} {cI : ClassId} {tb : Tbs} {a n : Nat → Nat} {Out_size : Int32} {Out_gathered : Int32} {Out_gatheredBits : Int32} {Pak_singles : Int32} {Pak_runs : Int32} {Pak_longest : Int32} {ob : Nat → Int32} {x1 : Int32} {post : Int32 × Int32 × Int32 × (Nat → Int32) → Prop} (h : wp_Pak_addLength n Out_size Out_gathered Out_gatheredBits ob x1 post) : CtV classes dC dI cI tb l y_Pak_addLength prog_4_method_5_code 2 ({ frames := 6, cells := 0, slots := 0, locals := 129 }) [.ref (a 5), .int x1] [e_Out a Out_size Out_gathered Out_gatheredBits, e_Pak a Pak_singles Pak_runs Pak_longest, e_ar a n cI 11 ob] (Int32 × Int32 × Int32 × (Nat → Int32)) (fun u => [e_Out a u.1 u.2.1 u.2.2.1, e_Pak a Pak_singles Pak_runs Pak_longest, e_ar a n cI 11 u.2.2.2]) post := by
  refine startV (by decide) (Nat.le_of_ble_eq_true rfl) ?_
  intro p e s m below meth c ls E hr hlk hnm hl hw
  have hl : lv_has ls 2 [(0, .ref (a 5)), (1, .int x1)] := hl
  generalize va_A [e_Out a Out_size Out_gathered Out_gatheredBits, e_Pak a Pak_singles Pak_runs Pak_longest, e_ar a n cI 11 ob] s.heap.size = A at hw ⊢
  obtain ⟨hx, hb, hml, hown, hts⟩ := id E
  unfold wp_Pak_addLength at h
  refine lv_iload_n hx hb d_Pak_addLength_0 rfl (lv_at hl 1 rfl) ?_
  refine lv_bipush (v := 11) hx hb d_Pak_addLength_1 (by decide) ?_
  refine lv_icmp_ge (tgt := 20) hx hb d_Pak_addLength_3 (by decide) (fun c1 => ?_) (fun c1 => ?_)
  · have h := h.1 c1
    refine lv_iload_n hx hb d_Pak_addLength_20 rfl (lv_at hl 1 rfl) ?_
    refine lv_sipush (v := 258) hx hb d_Pak_addLength_21 (by decide) ?_
    refine lv_icmp_ne (tgt := 37) hx hb d_Pak_addLength_24 (by decide) (fun c2 => ?_) (fun c2 => ?_)
    · have h := h.1 c2
      refine lv_aload_n hx hb d_Pak_addLength_37 rfl (lv_at hl 0 rfl) ?_
      refine lv_iload_n hx hb d_Pak_addLength_38 rfl (lv_at hl 1 rfl) ?_
      refine kVv (y := y_Pak_addLongLength) (ws' := fun u3 => [e_Out a u3.1 u3.2.1 u3.2.2.1, e_Pak a Pak_singles Pak_runs Pak_longest, e_ar a n cI 11 u3.2.2.2]) (wr := []) (As := [.int x1]) (rest := []) E hw (c_Pak_addLongLength (l := l) (dC := dC) (dI := dI) (cI := cI) (tb := tb) (a := a) (n := n) (Out_size := Out_size) (Out_gathered := Out_gathered) (Out_gatheredBits := Out_gatheredBits) (Pak_singles := Pak_singles) (Pak_runs := Pak_runs) (Pak_longest := Pak_longest) (ob := ob) (x1 := x1) h) tw394 tw396 tw13 tw42 tw397 1 (by decide) ⟨Nat.le_of_ble_eq_true rfl, Nat.le_of_ble_eq_true rfl⟩ ⟨Nat.le_of_ble_eq_true rfl, Nat.le_of_ble_eq_true rfl⟩ ⟨rfl, rfl⟩ rfl rfl 1 rfl [0, 1, 2] [] [0, 1, 2] rfl rfl rfl rfl (by decide) rfl (fun _ => rfl) hl.1 rfl rfl (Nat.le_of_ble_eq_true rfl) d_Pak_addLength_39 (fun u3 H locs h hw => ?_)
      exact retV (out := fun u => [e_Out a u.1 u.2.1 u.2.2.1, e_Pak a Pak_singles Pak_runs Pak_longest, e_ar a n cI 11 u.2.2.2]) (u := (u3.1, u3.2.1, u3.2.2.1, u3.2.2.2)) E hr hlk hw h d_Pak_addLength_42
    · have h := h.2 c2
      refine lv_aload_n hx hb d_Pak_addLength_27 rfl (lv_at hl 0 rfl) ?_
      refine lv_sipush (v := 285) hx hb d_Pak_addLength_28 (by decide) ?_
      refine kVv (y := y_Pak_addRunSign) (ws' := fun u5 => [e_Out a u5.1 u5.2.1 u5.2.2.1, e_Pak a Pak_singles Pak_runs Pak_longest, e_ar a n cI 11 u5.2.2.2]) (wr := []) (As := [.int 285]) (rest := []) E hw (c_Pak_addRunSign (l := l) (dC := dC) (dI := dI) (cI := cI) (tb := tb) (a := a) (n := n) (Out_size := Out_size) (Out_gathered := Out_gathered) (Out_gatheredBits := Out_gatheredBits) (Pak_singles := Pak_singles) (Pak_runs := Pak_runs) (Pak_longest := Pak_longest) (ob := ob) (x1 := 285) h) tw386 tw388 tw12 tw42 tw389 1 (by decide) ⟨Nat.le_of_ble_eq_true rfl, Nat.le_of_ble_eq_true rfl⟩ ⟨Nat.le_of_ble_eq_true rfl, Nat.le_of_ble_eq_true rfl⟩ ⟨rfl, rfl⟩ rfl rfl 1 rfl [0, 1, 2] [] [0, 1, 2] rfl rfl rfl rfl (by decide) rfl (fun _ => rfl) hl.1 rfl rfl (Nat.le_of_ble_eq_true rfl) d_Pak_addLength_31 (fun u5 H locs h hw => ?_)
      refine lv_goto (tgt := 42) hx hb d_Pak_addLength_34 (by decide) ?_
      exact retV (out := fun u => [e_Out a u.1 u.2.1 u.2.2.1, e_Pak a Pak_singles Pak_runs Pak_longest, e_ar a n cI 11 u.2.2.2]) (u := (u5.1, u5.2.1, u5.2.2.1, u5.2.2.2)) E hr hlk hw h d_Pak_addLength_42
  · have h := h.2 c1
    refine lv_aload_n hx hb d_Pak_addLength_6 rfl (lv_at hl 0 rfl) ?_
    refine lv_sipush (v := 257) hx hb d_Pak_addLength_7 (by decide) ?_
    refine lv_iload_n hx hb d_Pak_addLength_10 rfl (lv_at hl 1 rfl) ?_
    refine lv_iadd hx hb d_Pak_addLength_11 ?_
    refine lv_iconst (v := 3) hx hb d_Pak_addLength_12 (by decide) ?_
    refine lv_isub hx hb d_Pak_addLength_13 ?_
    refine kVv (y := y_Pak_addRunSign) (ws' := fun u7 => [e_Out a u7.1 u7.2.1 u7.2.2.1, e_Pak a Pak_singles Pak_runs Pak_longest, e_ar a n cI 11 u7.2.2.2]) (wr := []) (As := [.int ((257 + x1) - 3)]) (rest := []) E hw (c_Pak_addRunSign (l := l) (dC := dC) (dI := dI) (cI := cI) (tb := tb) (a := a) (n := n) (Out_size := Out_size) (Out_gathered := Out_gathered) (Out_gatheredBits := Out_gatheredBits) (Pak_singles := Pak_singles) (Pak_runs := Pak_runs) (Pak_longest := Pak_longest) (ob := ob) (x1 := (257 + x1) - 3) h) tw386 tw388 tw12 tw42 tw389 1 (by decide) ⟨Nat.le_of_ble_eq_true rfl, Nat.le_of_ble_eq_true rfl⟩ ⟨Nat.le_of_ble_eq_true rfl, Nat.le_of_ble_eq_true rfl⟩ ⟨rfl, rfl⟩ rfl rfl 1 rfl [0, 1, 2] [] [0, 1, 2] rfl rfl rfl rfl (by decide) rfl (fun _ => rfl) hl.1 rfl rfl (Nat.le_of_ble_eq_true rfl) d_Pak_addLength_14 (fun u7 H locs h hw => ?_)
    refine lv_goto (tgt := 42) hx hb d_Pak_addLength_17 (by decide) ?_
    exact retV (out := fun u => [e_Out a u.1 u.2.1 u.2.2.1, e_Pak a Pak_singles Pak_runs Pak_longest, e_ar a n cI 11 u.2.2.2]) (u := (u7.1, u7.2.1, u7.2.2.1, u7.2.2.2)) E hr hlk hw h d_Pak_addLength_42
-- PicturePacker$Packer.addDistance(I)V
theorem d_Pak_addDistance_0 : decode prog_4_method_7_code 0 = .ok (.iload_n 1, 1) := by decide +kernel
theorem d_Pak_addDistance_1 : decode prog_4_method_7_code 1 = .ok (.iconst 5, 1) := by decide +kernel
theorem d_Pak_addDistance_2 : decode prog_4_method_7_code 2 = .ok (.if_icmp .ge 15, 3) := by decide +kernel
theorem d_Pak_addDistance_5 : decode prog_4_method_7_code 5 = .ok (.aload_n 0, 1) := by decide +kernel
theorem d_Pak_addDistance_6 : decode prog_4_method_7_code 6 = .ok (.getfield 13, 3) := by decide +kernel
theorem d_Pak_addDistance_9 : decode prog_4_method_7_code 9 = .ok (.iload_n 1, 1) := by decide +kernel
theorem d_Pak_addDistance_10 : decode prog_4_method_7_code 10 = .ok (.iconst 1, 1) := by decide +kernel
theorem d_Pak_addDistance_11 : decode prog_4_method_7_code 11 = .ok (.isub, 1) := by decide +kernel
theorem d_Pak_addDistance_12 : decode prog_4_method_7_code 12 = .ok (.iconst 5, 1) := by decide +kernel
theorem d_Pak_addDistance_13 : decode prog_4_method_7_code 13 = .ok (.invokevirtual 67, 3) := by decide +kernel
theorem d_Pak_addDistance_16 : decode prog_4_method_7_code 16 = .ok (.return_, 1) := by decide +kernel
theorem d_Pak_addDistance_17 : decode prog_4_method_7_code 17 = .ok (.iconst 1, 1) := by decide +kernel
theorem d_Pak_addDistance_18 : decode prog_4_method_7_code 18 = .ok (.istore_n 2, 1) := by decide +kernel
theorem d_Pak_addDistance_19 : decode prog_4_method_7_code 19 = .ok (.iconst 5, 1) := by decide +kernel
theorem d_Pak_addDistance_20 : decode prog_4_method_7_code 20 = .ok (.istore_n 3, 1) := by decide +kernel
theorem d_Pak_addDistance_21 : decode prog_4_method_7_code 21 = .ok (.iload_n 2, 1) := by decide +kernel
theorem d_Pak_addDistance_22 : decode prog_4_method_7_code 22 = .ok (.bipush 13, 2) := by decide +kernel
theorem d_Pak_addDistance_24 : decode prog_4_method_7_code 24 = .ok (.if_icmp .ge 24, 3) := by decide +kernel
theorem d_Pak_addDistance_27 : decode prog_4_method_7_code 27 = .ok (.iload_n 1, 1) := by decide +kernel
theorem d_Pak_addDistance_28 : decode prog_4_method_7_code 28 = .ok (.iload_n 3, 1) := by decide +kernel
theorem d_Pak_addDistance_29 : decode prog_4_method_7_code 29 = .ok (.iconst 2, 1) := by decide +kernel
theorem d_Pak_addDistance_30 : decode prog_4_method_7_code 30 = .ok (.iload_n 2, 1) := by decide +kernel
theorem d_Pak_addDistance_31 : decode prog_4_method_7_code 31 = .ok (.ishl, 1) := by decide +kernel
theorem d_Pak_addDistance_32 : decode prog_4_method_7_code 32 = .ok (.iadd, 1) := by decide +kernel
theorem d_Pak_addDistance_33 : decode prog_4_method_7_code 33 = .ok (.if_icmp .lt 15, 3) := by decide +kernel
theorem d_Pak_addDistance_36 : decode prog_4_method_7_code 36 = .ok (.iload_n 3, 1) := by decide +kernel
theorem d_Pak_addDistance_37 : decode prog_4_method_7_code 37 = .ok (.iconst 2, 1) := by decide +kernel
theorem d_Pak_addDistance_38 : decode prog_4_method_7_code 38 = .ok (.iload_n 2, 1) := by decide +kernel
theorem d_Pak_addDistance_39 : decode prog_4_method_7_code 39 = .ok (.ishl, 1) := by decide +kernel
theorem d_Pak_addDistance_40 : decode prog_4_method_7_code 40 = .ok (.iadd, 1) := by decide +kernel
theorem d_Pak_addDistance_41 : decode prog_4_method_7_code 41 = .ok (.istore_n 3, 1) := by decide +kernel
theorem d_Pak_addDistance_42 : decode prog_4_method_7_code 42 = .ok (.iinc 2 1, 3) := by decide +kernel
theorem d_Pak_addDistance_45 : decode prog_4_method_7_code 45 = .ok (.goto (-24), 3) := by decide +kernel
theorem d_Pak_addDistance_48 : decode prog_4_method_7_code 48 = .ok (.aload_n 0, 1) := by decide +kernel
theorem d_Pak_addDistance_49 : decode prog_4_method_7_code 49 = .ok (.getfield 13, 3) := by decide +kernel
theorem d_Pak_addDistance_52 : decode prog_4_method_7_code 52 = .ok (.iconst 4, 1) := by decide +kernel
theorem d_Pak_addDistance_53 : decode prog_4_method_7_code 53 = .ok (.iconst 2, 1) := by decide +kernel
theorem d_Pak_addDistance_54 : decode prog_4_method_7_code 54 = .ok (.iload_n 2, 1) := by decide +kernel
theorem d_Pak_addDistance_55 : decode prog_4_method_7_code 55 = .ok (.iconst 1, 1) := by decide +kernel
theorem d_Pak_addDistance_56 : decode prog_4_method_7_code 56 = .ok (.isub, 1) := by decide +kernel
theorem d_Pak_addDistance_57 : decode prog_4_method_7_code 57 = .ok (.imul, 1) := by decide +kernel
theorem d_Pak_addDistance_58 : decode prog_4_method_7_code 58 = .ok (.iadd, 1) := by decide +kernel
theorem d_Pak_addDistance_59 : decode prog_4_method_7_code 59 = .ok (.iload_n 1, 1) := by decide +kernel
theorem d_Pak_addDistance_60 : decode prog_4_method_7_code 60 = .ok (.iload_n 3, 1) := by decide +kernel
theorem d_Pak_addDistance_61 : decode prog_4_method_7_code 61 = .ok (.isub, 1) := by decide +kernel
theorem d_Pak_addDistance_62 : decode prog_4_method_7_code 62 = .ok (.iload_n 2, 1) := by decide +kernel
theorem d_Pak_addDistance_63 : decode prog_4_method_7_code 63 = .ok (.ishr, 1) := by decide +kernel
theorem d_Pak_addDistance_64 : decode prog_4_method_7_code 64 = .ok (.iadd, 1) := by decide +kernel
theorem d_Pak_addDistance_65 : decode prog_4_method_7_code 65 = .ok (.iconst 5, 1) := by decide +kernel
theorem d_Pak_addDistance_66 : decode prog_4_method_7_code 66 = .ok (.invokevirtual 67, 3) := by decide +kernel
theorem d_Pak_addDistance_69 : decode prog_4_method_7_code 69 = .ok (.aload_n 0, 1) := by decide +kernel
theorem d_Pak_addDistance_70 : decode prog_4_method_7_code 70 = .ok (.getfield 13, 3) := by decide +kernel
theorem d_Pak_addDistance_73 : decode prog_4_method_7_code 73 = .ok (.iload_n 1, 1) := by decide +kernel
theorem d_Pak_addDistance_74 : decode prog_4_method_7_code 74 = .ok (.iload_n 3, 1) := by decide +kernel
theorem d_Pak_addDistance_75 : decode prog_4_method_7_code 75 = .ok (.isub, 1) := by decide +kernel
theorem d_Pak_addDistance_76 : decode prog_4_method_7_code 76 = .ok (.iload_n 2, 1) := by decide +kernel
theorem d_Pak_addDistance_77 : decode prog_4_method_7_code 77 = .ok (.invokevirtual 39, 3) := by decide +kernel
theorem d_Pak_addDistance_80 : decode prog_4_method_7_code 80 = .ok (.return_, 1) := by decide +kernel
abbrev y_Pak_addDistance : MethodName := ⟨"PicturePacker$Packer", "addDistance", "(I)V"⟩
def wp_Pak_addDistance_48 (n : Nat → Nat) (x1 : Int32) (post : Int32 × Int32 × Int32 × (Nat → Int32) → Prop) (Out_size : Int32) (Out_gathered : Int32) (Out_gatheredBits : Int32) (ob : Nat → Int32) (y2 : Int32) (y3 : Int32) : Prop := wp_Out_addBitsHighestFirst n Out_size Out_gathered Out_gatheredBits ob ((4 + (2 * (y2 - 1))) + ((x1 - y3 : Int32) >>> (y2 &&& 31))) 5 (fun u3 => wp_Out_addBitsLowestFirst n u3.1 u3.2.1 u3.2.2.1 u3.2.2.2 (x1 - y3) y2 (fun u5 => post (u5.1, u5.2.1, u5.2.2.1, u5.2.2.2)))
def wp_Pak_addDistance_21 (n : Nat → Nat) (x1 : Int32) (post : Int32 × Int32 × Int32 × (Nat → Int32) → Prop) : Nat → Int32 → Int32 → Int32 → (Nat → Int32) → Int32 → Int32 → Prop
  | 0 => fun _ _ _ _ _ _ => False
  | N + 1 => fun Out_size Out_gathered Out_gatheredBits ob y2 y3 => ((13 : Int32) ≤ y2 → (wp_Pak_addDistance_48 n x1 post Out_size Out_gathered Out_gatheredBits ob y2 y3)) ∧ (¬ ((13 : Int32) ≤ y2) → (((x1 : Int32) < (y3 + ((2 : Int32) <<< (y2 &&& 31))) → (wp_Pak_addDistance_48 n x1 post Out_size Out_gathered Out_gatheredBits ob y2 y3)) ∧ (¬ ((x1 : Int32) < (y3 + ((2 : Int32) <<< (y2 &&& 31)))) → (∀ z8 : Int32, z8 = (y3 + ((2 : Int32) <<< (y2 &&& 31))) → (∀ z9 : Int32, z9 = (y2 + 1) → (wp_Pak_addDistance_21 n x1 post N Out_size Out_gathered Out_gatheredBits ob z9 z8))))))
def wp_Pak_addDistance (n : Nat → Nat) (Out_size : Int32) (Out_gathered : Int32) (Out_gatheredBits : Int32) (ob : Nat → Int32) (x1 : Int32) (post : Int32 × Int32 × Int32 × (Nat → Int32) → Prop) : Prop := ((5 : Int32) ≤ x1 → (∃ N10 : Nat, wp_Pak_addDistance_21 n x1 post N10 Out_size Out_gathered Out_gatheredBits ob 1 5)) ∧ (¬ ((5 : Int32) ≤ x1) → (wp_Out_addBitsHighestFirst n Out_size Out_gathered Out_gatheredBits ob (x1 - 1) 5 (fun u11 => post (u11.1, u11.2.1, u11.2.2.1, u11.2.2.2))))
set_option maxHeartbeats 2000000 in
set_option maxRecDepth 20000 in
theorem s_Pak_addDistance_48 {l : Launch} {dC : Nat → ClassId} {dI : Nat → Nat → Nat} {cI : ClassId} {tb : Tbs} {a n : Nat → Nat} {p : Program} {e : Env} {s : State} {m : MethodId} {args : Array Value} {below : List Frame} {meth : Method} {c : Code} {A : Nat → Prop} (E : CallFix p m c prog_4_method_7_code 4 s args TBL "PicturePacker$Packer") (hr : meth.sig.returnType = none) (hlk : meth.locks = false) {Pak_singles : Int32} {Pak_runs : Int32} {Pak_longest : Int32} {x1 : Int32} {post : Int32 × Int32 × Int32 × (Nat → Int32) → Prop} : ∀ (Out_size : Int32) (Out_gathered : Int32) (Out_gatheredBits : Int32) (ob : Nat → Int32) (y2 : Int32) (y3 : Int32) (H : Heap) (locs : List Loc) (ls : Array Slot), Wl classes dC dI cI tb A s H locs [e_Out a Out_size Out_gathered Out_gatheredBits, e_Pak a Pak_singles Pak_runs Pak_longest, e_ar a n cI 11 ob] → lv_has ls 4 [(0, .ref (a 5)), (1, .int x1), (2, .int y2), (3, .int y3)] → wp_Pak_addDistance_48 n x1 post Out_size Out_gathered Out_gatheredBits ob y2 y3 → W p l e ({ frames := 4, cells := 0, slots := 0, locals := 85 }) s m args below meth c H locs 0 0 (MQ below (va_Qv post (fun u => End0 classes dC dI cI A [e_Out a u.1 u.2.1 u.2.2.1, e_Pak a Pak_singles Pak_runs Pak_longest, e_ar a n cI 11 u.2.2.2]) A) args s 0 0 A) (F0 m 48 ls []) := by
  obtain ⟨hx, hb, hml, hown, hts⟩ := id E
  intro Out_size Out_gathered Out_gatheredBits ob y2 y3 H locs ls hw hl h
  unfold wp_Pak_addDistance_48 at h
  refine lv_aload_n hx hb d_Pak_addDistance_48 rfl (lv_at hl 0 rfl) ?_
  refine kget (v := .ref (a 3)) (T := F_Pak) E hw in_Pak rfl 1 1 rfl (by decide) tw190 rfl d_Pak_addDistance_49 ?_
  refine lv_iconst (v := 4) hx hb d_Pak_addDistance_52 (by decide) ?_
  refine lv_iconst (v := 2) hx hb d_Pak_addDistance_53 (by decide) ?_
  refine lv_iload_n hx hb d_Pak_addDistance_54 rfl (lv_at hl 2 rfl) ?_
  refine lv_iconst (v := 1) hx hb d_Pak_addDistance_55 (by decide) ?_
  refine lv_isub hx hb d_Pak_addDistance_56 ?_
  refine lv_imul hx hb d_Pak_addDistance_57 ?_
  refine lv_iadd hx hb d_Pak_addDistance_58 ?_
  refine lv_iload_n hx hb d_Pak_addDistance_59 rfl (lv_at hl 1 rfl) ?_
  refine lv_iload_n hx hb d_Pak_addDistance_60 rfl (lv_at hl 3 rfl) ?_
  refine lv_isub hx hb d_Pak_addDistance_61 ?_
  refine lv_iload_n hx hb d_Pak_addDistance_62 rfl (lv_at hl 2 rfl) ?_
  refine lv_ishr hx hb d_Pak_addDistance_63 ?_
  refine lv_iadd hx hb d_Pak_addDistance_64 ?_
  refine lv_iconst (v := 5) hx hb d_Pak_addDistance_65 (by decide) ?_
  refine kVv (y := y_Out_addBitsHighestFirst) (ws' := fun u3 => [e_Out a u3.1 u3.2.1 u3.2.2.1, e_Pak a Pak_singles Pak_runs Pak_longest, e_ar a n cI 11 u3.2.2.2]) (wr := [e_Pak a Pak_singles Pak_runs Pak_longest]) (As := [.int ((4 + (2 * (y2 - 1))) + ((x1 - y3 : Int32) >>> (y2 &&& 31))), .int 5]) (rest := []) E hw (c_Out_addBitsHighestFirst (l := l) (dC := dC) (dI := dI) (cI := cI) (tb := tb) (a := a) (n := n) (Out_size := Out_size) (Out_gathered := Out_gathered) (Out_gatheredBits := Out_gatheredBits) (ob := ob) (x1 := (4 + (2 * (y2 - 1))) + ((x1 - y3 : Int32) >>> (y2 &&& 31))) (x2 := 5) h) tw390 tw391 tw392 tw40 tw393 2 (by decide) ⟨Nat.le_of_ble_eq_true rfl, Nat.le_of_ble_eq_true rfl⟩ ⟨Nat.le_of_ble_eq_true rfl, Nat.le_of_ble_eq_true rfl⟩ ⟨rfl, rfl⟩ rfl rfl 0 rfl [0, 2] [1] [1, 0, 2] rfl rfl rfl rfl (by decide) rfl (fun _ => rfl) hl.1 rfl rfl (Nat.le_of_ble_eq_true rfl) d_Pak_addDistance_66 (fun u3 H locs h hw => ?_)
  refine lv_aload_n hx hb d_Pak_addDistance_69 rfl (lv_at hl 0 rfl) ?_
  refine kget (v := .ref (a 3)) (T := F_Pak) E hw in_Pak rfl 1 1 rfl (by decide) tw190 rfl d_Pak_addDistance_70 ?_
  refine lv_iload_n hx hb d_Pak_addDistance_73 rfl (lv_at hl 1 rfl) ?_
  refine lv_iload_n hx hb d_Pak_addDistance_74 rfl (lv_at hl 3 rfl) ?_
  refine lv_isub hx hb d_Pak_addDistance_75 ?_
  refine lv_iload_n hx hb d_Pak_addDistance_76 rfl (lv_at hl 2 rfl) ?_
  refine kVv (y := y_Out_addBitsLowestFirst) (ws' := fun u5 => [e_Out a u5.1 u5.2.1 u5.2.2.1, e_Pak a Pak_singles Pak_runs Pak_longest, e_ar a n cI 11 u5.2.2.2]) (wr := [e_Pak a Pak_singles Pak_runs Pak_longest]) (As := [.int (x1 - y3), .int y2]) (rest := []) E hw (c_Out_addBitsLowestFirst (l := l) (dC := dC) (dI := dI) (cI := cI) (tb := tb) (a := a) (n := n) (Out_size := u3.1) (Out_gathered := u3.2.1) (Out_gatheredBits := u3.2.2.1) (ob := u3.2.2.2) (x1 := x1 - y3) (x2 := y2) h) tw348 tw349 tw350 tw40 tw351 2 (by decide) ⟨Nat.le_of_ble_eq_true rfl, Nat.le_of_ble_eq_true rfl⟩ ⟨Nat.le_of_ble_eq_true rfl, Nat.le_of_ble_eq_true rfl⟩ ⟨rfl, rfl⟩ rfl rfl 0 rfl [0, 2] [1] [1, 0, 2] rfl rfl rfl rfl (by decide) rfl (fun _ => rfl) hl.1 rfl rfl (Nat.le_of_ble_eq_true rfl) d_Pak_addDistance_77 (fun u5 H locs h hw => ?_)
  exact retV (out := fun u => [e_Out a u.1 u.2.1 u.2.2.1, e_Pak a Pak_singles Pak_runs Pak_longest, e_ar a n cI 11 u.2.2.2]) (u := (u5.1, u5.2.1, u5.2.2.1, u5.2.2.2)) E hr hlk hw h d_Pak_addDistance_80
set_option maxHeartbeats 2000000 in
set_option maxRecDepth 20000 in
theorem s_Pak_addDistance_21 {l : Launch} {dC : Nat → ClassId} {dI : Nat → Nat → Nat} {cI : ClassId} {tb : Tbs} {a n : Nat → Nat} {p : Program} {e : Env} {s : State} {m : MethodId} {args : Array Value} {below : List Frame} {meth : Method} {c : Code} {A : Nat → Prop} (E : CallFix p m c prog_4_method_7_code 4 s args TBL "PicturePacker$Packer") (hr : meth.sig.returnType = none) (hlk : meth.locks = false) {Pak_singles : Int32} {Pak_runs : Int32} {Pak_longest : Int32} {x1 : Int32} {post : Int32 × Int32 × Int32 × (Nat → Int32) → Prop} : ∀ (N : Nat) (Out_size : Int32) (Out_gathered : Int32) (Out_gatheredBits : Int32) (ob : Nat → Int32) (y2 : Int32) (y3 : Int32) (H : Heap) (locs : List Loc) (ls : Array Slot), Wl classes dC dI cI tb A s H locs [e_Out a Out_size Out_gathered Out_gatheredBits, e_Pak a Pak_singles Pak_runs Pak_longest, e_ar a n cI 11 ob] → lv_has ls 4 [(0, .ref (a 5)), (1, .int x1), (2, .int y2), (3, .int y3)] → wp_Pak_addDistance_21 n x1 post N Out_size Out_gathered Out_gatheredBits ob y2 y3 → W p l e ({ frames := 4, cells := 0, slots := 0, locals := 85 }) s m args below meth c H locs 0 0 (MQ below (va_Qv post (fun u => End0 classes dC dI cI A [e_Out a u.1 u.2.1 u.2.2.1, e_Pak a Pak_singles Pak_runs Pak_longest, e_ar a n cI 11 u.2.2.2]) A) args s 0 0 A) (F0 m 21 ls []) := by
  obtain ⟨hx, hb, hml, hown, hts⟩ := id E
  intro N
  induction N with
  | zero =>
    intro _ _ _ _ _ _ H locs ls hw hl h
    exact absurd h id
  | succ N ih =>
    intro Out_size Out_gathered Out_gatheredBits ob y2 y3 H locs ls hw hl h
    unfold wp_Pak_addDistance_21 at h
    refine lv_iload_n hx hb d_Pak_addDistance_21 rfl (lv_at hl 2 rfl) ?_
    refine lv_bipush (v := 13) hx hb d_Pak_addDistance_22 (by decide) ?_
    refine lv_icmp_ge (tgt := 48) hx hb d_Pak_addDistance_24 (by decide) (fun c2 => ?_) (fun c2 => ?_)
    · have h := h.1 c2
      exact s_Pak_addDistance_48 (a := a) (n := n) (tb := tb) E hr hlk  Out_size Out_gathered Out_gatheredBits ob y2 y3 _ _ ls hw (lv_sub hl [0, 1, 2, 3] rfl) h
    · have h := h.2 c2
      refine lv_iload_n hx hb d_Pak_addDistance_27 rfl (lv_at hl 1 rfl) ?_
      refine lv_iload_n hx hb d_Pak_addDistance_28 rfl (lv_at hl 3 rfl) ?_
      refine lv_iconst (v := 2) hx hb d_Pak_addDistance_29 (by decide) ?_
      refine lv_iload_n hx hb d_Pak_addDistance_30 rfl (lv_at hl 2 rfl) ?_
      refine lv_ishl hx hb d_Pak_addDistance_31 ?_
      refine lv_iadd hx hb d_Pak_addDistance_32 ?_
      refine lv_icmp_lt (tgt := 48) hx hb d_Pak_addDistance_33 (by decide) (fun c7 => ?_) (fun c7 => ?_)
      · have h := h.1 c7
        exact s_Pak_addDistance_48 (a := a) (n := n) (tb := tb) E hr hlk  Out_size Out_gathered Out_gatheredBits ob y2 y3 _ _ ls hw (lv_sub hl [0, 1, 2, 3] rfl) h
      · have h := h.2 c7
        refine lv_iload_n hx hb d_Pak_addDistance_36 rfl (lv_at hl 3 rfl) ?_
        refine lv_iconst (v := 2) hx hb d_Pak_addDistance_37 (by decide) ?_
        refine lv_iload_n hx hb d_Pak_addDistance_38 rfl (lv_at hl 2 rfl) ?_
        refine lv_ishl hx hb d_Pak_addDistance_39 ?_
        refine lv_iadd hx hb d_Pak_addDistance_40 ?_
        refine lv_topi (fun z8 ez8 => ?_)
        have h := h z8 ez8
        refine lv_istore_n (lv' := [(3, .int z8), (0, .ref (a 5)), (1, .int x1), (2, .int y2)]) hx hb d_Pak_addDistance_41 rfl hl (by decide) rfl (fun ls hl => ?_)
        obtain ⟨z9, ez9⟩ : ∃ z : Int32, z = y2 + 1 := ⟨_, rfl⟩
        have h := h z9 ez9
        refine lv_iinc (v := z9) (lv' := [(2, .int z9), (3, .int z8), (0, .ref (a 5)), (1, .int x1)]) hx hb d_Pak_addDistance_42 hl (k := 3) rfl (by rw [ez9]; exact congrArg (y2 + ·) (by decide)) (by decide) rfl (fun ls hl => ?_)
        refine lv_goto (tgt := 21) hx hb d_Pak_addDistance_45 (by decide) ?_
        exact ih Out_size Out_gathered Out_gatheredBits ob z9 z8 _ _ ls hw (lv_sub hl [2, 3, 0, 1] rfl) h
set_option maxHeartbeats 2000000 in
set_option maxRecDepth 20000 in
theorem c_Pak_addDistance {l : Launch} {dC : Nat → ClassId} {dI : Nat → Nat → Nat} {cI : ClassId} {tb : Tbs} {a n : Nat → Nat} {Out_size : Int32} {Out_gathered : Int32} {Out_gatheredBits : Int32} {Pak_singles : Int32} {Pak_runs : Int32} {Pak_longest : Int32} {ob : Nat → Int32} {x1 : Int32} {post : Int32 × Int32 × Int32 × (Nat → Int32) → Prop} (h : wp_Pak_addDistance n Out_size Out_gathered Out_gatheredBits ob x1 post) : CtV classes dC dI cI tb l y_Pak_addDistance prog_4_method_7_code 4 ({ frames := 4, cells := 0, slots := 0, locals := 85 }) [.ref (a 5), .int x1] [e_Out a Out_size Out_gathered Out_gatheredBits, e_Pak a Pak_singles Pak_runs Pak_longest, e_ar a n cI 11 ob] (Int32 × Int32 × Int32 × (Nat → Int32)) (fun u => [e_Out a u.1 u.2.1 u.2.2.1, e_Pak a Pak_singles Pak_runs Pak_longest, e_ar a n cI 11 u.2.2.2]) post := by
  refine startV (by decide) (Nat.le_of_ble_eq_true rfl) ?_
  intro p e s m below meth c ls E hr hlk hnm hl hw
  have hl : lv_has ls 4 [(0, .ref (a 5)), (1, .int x1)] := hl
  generalize va_A [e_Out a Out_size Out_gathered Out_gatheredBits, e_Pak a Pak_singles Pak_runs Pak_longest, e_ar a n cI 11 ob] s.heap.size = A at hw ⊢
  obtain ⟨hx, hb, hml, hown, hts⟩ := id E
  unfold wp_Pak_addDistance at h
  refine lv_iload_n hx hb d_Pak_addDistance_0 rfl (lv_at hl 1 rfl) ?_
  refine lv_iconst (v := 5) hx hb d_Pak_addDistance_1 (by decide) ?_
  refine lv_icmp_ge (tgt := 17) hx hb d_Pak_addDistance_2 (by decide) (fun c1 => ?_) (fun c1 => ?_)
  · have h := h.1 c1
    refine lv_iconst (v := 1) hx hb d_Pak_addDistance_17 (by decide) ?_
    refine lv_istore_n (lv' := [(2, .int 1), (0, .ref (a 5)), (1, .int x1)]) hx hb d_Pak_addDistance_18 rfl hl (by decide) rfl (fun ls hl => ?_)
    refine lv_iconst (v := 5) hx hb d_Pak_addDistance_19 (by decide) ?_
    refine lv_istore_n (lv' := [(3, .int 5), (2, .int 1), (0, .ref (a 5)), (1, .int x1)]) hx hb d_Pak_addDistance_20 rfl hl (by decide) rfl (fun ls hl => ?_)
    obtain ⟨N10, h⟩ := h
    exact s_Pak_addDistance_21 (a := a) (n := n) (tb := tb) E hr hlk  N10 Out_size Out_gathered Out_gatheredBits ob 1 5 _ _ ls hw (lv_sub hl [2, 3, 1, 0] rfl) h
  · have h := h.2 c1
    refine lv_aload_n hx hb d_Pak_addDistance_5 rfl (lv_at hl 0 rfl) ?_
    refine kget (v := .ref (a 3)) (T := F_Pak) E hw in_Pak rfl 1 1 rfl (by decide) tw190 rfl d_Pak_addDistance_6 ?_
    refine lv_iload_n hx hb d_Pak_addDistance_9 rfl (lv_at hl 1 rfl) ?_
    refine lv_iconst (v := 1) hx hb d_Pak_addDistance_10 (by decide) ?_
    refine lv_isub hx hb d_Pak_addDistance_11 ?_
    refine lv_iconst (v := 5) hx hb d_Pak_addDistance_12 (by decide) ?_
    refine kVv (y := y_Out_addBitsHighestFirst) (ws' := fun u11 => [e_Out a u11.1 u11.2.1 u11.2.2.1, e_Pak a Pak_singles Pak_runs Pak_longest, e_ar a n cI 11 u11.2.2.2]) (wr := [e_Pak a Pak_singles Pak_runs Pak_longest]) (As := [.int (x1 - 1), .int 5]) (rest := []) E hw (c_Out_addBitsHighestFirst (l := l) (dC := dC) (dI := dI) (cI := cI) (tb := tb) (a := a) (n := n) (Out_size := Out_size) (Out_gathered := Out_gathered) (Out_gatheredBits := Out_gatheredBits) (ob := ob) (x1 := x1 - 1) (x2 := 5) h) tw390 tw391 tw392 tw40 tw393 2 (by decide) ⟨Nat.le_of_ble_eq_true rfl, Nat.le_of_ble_eq_true rfl⟩ ⟨Nat.le_of_ble_eq_true rfl, Nat.le_of_ble_eq_true rfl⟩ ⟨rfl, rfl⟩ rfl rfl 0 rfl [0, 2] [1] [1, 0, 2] rfl rfl rfl rfl (by decide) rfl (fun _ => rfl) hl.1 rfl rfl (Nat.le_of_ble_eq_true rfl) d_Pak_addDistance_13 (fun u11 H locs h hw => ?_)
    exact retV (out := fun u => [e_Out a u.1 u.2.1 u.2.2.1, e_Pak a Pak_singles Pak_runs Pak_longest, e_ar a n cI 11 u.2.2.2]) (u := (u11.1, u11.2.1, u11.2.2.1, u11.2.2.2)) E hr hlk hw h d_Pak_addDistance_16
-- PicturePacker$Packer.addRun(II)V
theorem d_Pak_addRun_0 : decode prog_4_method_4_code 0 = .ok (.aload_n 0, 1) := by decide +kernel
theorem d_Pak_addRun_1 : decode prog_4_method_4_code 1 = .ok (.dup, 1) := by decide +kernel
theorem d_Pak_addRun_2 : decode prog_4_method_4_code 2 = .ok (.getfield 30, 3) := by decide +kernel
theorem d_Pak_addRun_5 : decode prog_4_method_4_code 5 = .ok (.iconst 1, 1) := by decide +kernel
theorem d_Pak_addRun_6 : decode prog_4_method_4_code 6 = .ok (.iadd, 1) := by decide +kernel
theorem d_Pak_addRun_7 : decode prog_4_method_4_code 7 = .ok (.putfield 30, 3) := by decide +kernel
theorem d_Pak_addRun_10 : decode prog_4_method_4_code 10 = .ok (.aload_n 0, 1) := by decide +kernel
theorem d_Pak_addRun_11 : decode prog_4_method_4_code 11 = .ok (.aload_n 0, 1) := by decide +kernel
theorem d_Pak_addRun_12 : decode prog_4_method_4_code 12 = .ok (.getfield 33, 3) := by decide +kernel
theorem d_Pak_addRun_15 : decode prog_4_method_4_code 15 = .ok (.iload_n 1, 1) := by decide +kernel
theorem d_Pak_addRun_16 : decode prog_4_method_4_code 16 = .ok (.invokestatic 70, 3) := by decide +kernel
theorem d_Pak_addRun_19 : decode prog_4_method_4_code 19 = .ok (.putfield 33, 3) := by decide +kernel
theorem d_Pak_addRun_22 : decode prog_4_method_4_code 22 = .ok (.aload_n 0, 1) := by decide +kernel
theorem d_Pak_addRun_23 : decode prog_4_method_4_code 23 = .ok (.iload_n 1, 1) := by decide +kernel
theorem d_Pak_addRun_24 : decode prog_4_method_4_code 24 = .ok (.invokevirtual 76, 3) := by decide +kernel
theorem d_Pak_addRun_27 : decode prog_4_method_4_code 27 = .ok (.aload_n 0, 1) := by decide +kernel
theorem d_Pak_addRun_28 : decode prog_4_method_4_code 28 = .ok (.iload_n 2, 1) := by decide +kernel
theorem d_Pak_addRun_29 : decode prog_4_method_4_code 29 = .ok (.invokevirtual 79, 3) := by decide +kernel
theorem d_Pak_addRun_32 : decode prog_4_method_4_code 32 = .ok (.return_, 1) := by decide +kernel
abbrev y_Pak_addRun : MethodName := ⟨"PicturePacker$Packer", "addRun", "(II)V"⟩
def wp_Pak_addRun (n : Nat → Nat) (Out_size : Int32) (Out_gathered : Int32) (Out_gatheredBits : Int32) (Pak_runs : Int32) (Pak_longest : Int32) (ob : Nat → Int32) (x1 : Int32) (x2 : Int32) (post : Int32 × Int32 × Int32 × Int32 × Int32 × (Nat → Int32) → Prop) : Prop := ∀ z1 : Int32, z1 = (Pak_runs + 1) → (∀ z2 : Int32, z2 = (if (Pak_longest : Int32) < x1 then x1 else Pak_longest) → (wp_Pak_addLength n Out_size Out_gathered Out_gatheredBits ob x1 (fun u3 => wp_Pak_addDistance n u3.1 u3.2.1 u3.2.2.1 u3.2.2.2 x2 (fun u5 => post (u5.1, u5.2.1, u5.2.2.1, z1, z2, u5.2.2.2)))))
set_option maxHeartbeats 2000000 in
set_option maxRecDepth 20000 in
theorem c_Pak_addRun {l : Launch} {dC : Nat → ClassId} {dI : Nat → Nat → Nat} {cI : ClassId} {tb : Tbs} {a n : Nat → Nat} {Out_size : Int32} {Out_gathered : Int32} {Out_gatheredBits : Int32} {Pak_singles : Int32} {Pak_runs : Int32} {Pak_longest : Int32} {ob : Nat → Int32} {x1 : Int32} {x2 : Int32} {post : Int32 × Int32 × Int32 × Int32 × Int32 × (Nat → Int32) → Prop} (h : wp_Pak_addRun n Out_size Out_gathered Out_gatheredBits Pak_runs Pak_longest ob x1 x2 post) : CtV classes dC dI cI tb l y_Pak_addRun prog_4_method_4_code 3 ({ frames := 7, cells := 0, slots := 0, locals := 150 }) [.ref (a 5), .int x1, .int x2] [e_Out a Out_size Out_gathered Out_gatheredBits, e_Pak a Pak_singles Pak_runs Pak_longest, e_ar a n cI 11 ob] (Int32 × Int32 × Int32 × Int32 × Int32 × (Nat → Int32)) (fun u => [e_Out a u.1 u.2.1 u.2.2.1, e_Pak a Pak_singles u.2.2.2.1 u.2.2.2.2.1, e_ar a n cI 11 u.2.2.2.2.2]) post := by
  refine startV (by decide) (Nat.le_of_ble_eq_true rfl) ?_
  intro p e s m below meth c ls E hr hlk hnm hl hw
  have hl : lv_has ls 3 [(0, .ref (a 5)), (1, .int x1), (2, .int x2)] := hl
  generalize va_A [e_Out a Out_size Out_gathered Out_gatheredBits, e_Pak a Pak_singles Pak_runs Pak_longest, e_ar a n cI 11 ob] s.heap.size = A at hw ⊢
  obtain ⟨hx, hb, hml, hown, hts⟩ := id E
  unfold wp_Pak_addRun at h
  refine lv_aload_n hx hb d_Pak_addRun_0 rfl (lv_at hl 0 rfl) ?_
  refine lv_dup hx hb d_Pak_addRun_1 rfl ?_
  refine kget (v := .int Pak_runs) (T := F_Pak) E hw in_Pak rfl 1 4 rfl (by decide) tw194 rfl d_Pak_addRun_2 ?_
  refine lv_iconst (v := 1) hx hb d_Pak_addRun_5 (by decide) ?_
  refine lv_iadd hx hb d_Pak_addRun_6 ?_
  refine lv_topi (fun z1 ez1 => ?_)
  have h := h z1 ez1
  refine kput (v := .int z1) (ty := .int) (T := F_Pak) (ws' := [e_Out a Out_size Out_gathered Out_gatheredBits, e_Pak a Pak_singles z1 Pak_longest, e_ar a n cI 11 ob]) E hw in_Pak t_Pak t_Pak_ok n_Pak rfl 1 4 rfl (by decide) tw194 rfl rfl rfl rfl (Nat.le_of_ble_eq_true rfl) rfl d_Pak_addRun_7 (fun H locs hw => ?_)
  refine lv_aload_n hx hb d_Pak_addRun_10 rfl (lv_at hl 0 rfl) ?_
  refine lv_aload_n hx hb d_Pak_addRun_11 rfl (lv_at hl 0 rfl) ?_
  refine kget (v := .int Pak_longest) (T := F_Pak) E hw in_Pak rfl 1 5 rfl (by decide) tw196 rfl d_Pak_addRun_12 ?_
  refine lv_iload_n hx hb d_Pak_addRun_15 rfl (lv_at hl 1 rfl) ?_
  refine kmax E hl.1 tw381 tw62 tw37 tw63 (Nat.le_of_ble_eq_true rfl) (Nat.le_of_ble_eq_true rfl) (Nat.le_of_ble_eq_true rfl) (Nat.le_of_ble_eq_true rfl) d_Pak_addRun_16 ?_
  refine lv_topi (fun z2 ez2 => ?_)
  have h := h z2 ez2
  refine kput (v := .int z2) (ty := .int) (T := F_Pak) (ws' := [e_Out a Out_size Out_gathered Out_gatheredBits, e_Pak a Pak_singles z1 z2, e_ar a n cI 11 ob]) E hw in_Pak t_Pak t_Pak_ok n_Pak rfl 1 5 rfl (by decide) tw196 rfl rfl rfl rfl (Nat.le_of_ble_eq_true rfl) rfl d_Pak_addRun_19 (fun H locs hw => ?_)
  refine lv_aload_n hx hb d_Pak_addRun_22 rfl (lv_at hl 0 rfl) ?_
  refine lv_iload_n hx hb d_Pak_addRun_23 rfl (lv_at hl 1 rfl) ?_
  refine kVv (y := y_Pak_addLength) (ws' := fun u3 => [e_Out a u3.1 u3.2.1 u3.2.2.1, e_Pak a Pak_singles z1 z2, e_ar a n cI 11 u3.2.2.2]) (wr := []) (As := [.int x1]) (rest := []) E hw (c_Pak_addLength (l := l) (dC := dC) (dI := dI) (cI := cI) (tb := tb) (a := a) (n := n) (Out_size := Out_size) (Out_gathered := Out_gathered) (Out_gatheredBits := Out_gatheredBits) (Pak_singles := Pak_singles) (Pak_runs := z1) (Pak_longest := z2) (ob := ob) (x1 := x1) h) tw382 tw384 tw11 tw42 tw385 1 (by decide) ⟨Nat.le_of_ble_eq_true rfl, Nat.le_of_ble_eq_true rfl⟩ ⟨Nat.le_of_ble_eq_true rfl, Nat.le_of_ble_eq_true rfl⟩ ⟨rfl, rfl⟩ rfl rfl 1 rfl [0, 1, 2] [] [0, 1, 2] rfl rfl rfl rfl (by decide) rfl (fun _ => rfl) hl.1 rfl rfl (Nat.le_of_ble_eq_true rfl) d_Pak_addRun_24 (fun u3 H locs h hw => ?_)
  refine lv_aload_n hx hb d_Pak_addRun_27 rfl (lv_at hl 0 rfl) ?_
  refine lv_iload_n hx hb d_Pak_addRun_28 rfl (lv_at hl 2 rfl) ?_
  refine kVv (y := y_Pak_addDistance) (ws' := fun u5 => [e_Out a u5.1 u5.2.1 u5.2.2.1, e_Pak a Pak_singles z1 z2, e_ar a n cI 11 u5.2.2.2]) (wr := []) (As := [.int x2]) (rest := []) E hw (c_Pak_addDistance (l := l) (dC := dC) (dI := dI) (cI := cI) (tb := tb) (a := a) (n := n) (Out_size := u3.1) (Out_gathered := u3.2.1) (Out_gatheredBits := u3.2.2.1) (Pak_singles := Pak_singles) (Pak_runs := z1) (Pak_longest := z2) (ob := u3.2.2.2) (x1 := x2) h) tw398 tw400 tw14 tw42 tw401 1 (by decide) ⟨Nat.le_of_ble_eq_true rfl, Nat.le_of_ble_eq_true rfl⟩ ⟨Nat.le_of_ble_eq_true rfl, Nat.le_of_ble_eq_true rfl⟩ ⟨rfl, rfl⟩ rfl rfl 1 rfl [0, 1, 2] [] [0, 1, 2] rfl rfl rfl rfl (by decide) rfl (fun _ => rfl) hl.1 rfl rfl (Nat.le_of_ble_eq_true rfl) d_Pak_addRun_29 (fun u5 H locs h hw => ?_)
  exact retV (out := fun u => [e_Out a u.1 u.2.1 u.2.2.1, e_Pak a Pak_singles u.2.2.2.1 u.2.2.2.2.1, e_ar a n cI 11 u.2.2.2.2.2]) (u := (u5.1, u5.2.1, u5.2.2.1, z1, z2, u5.2.2.2)) E hr hlk hw h d_Pak_addRun_32
-- PicturePacker$Packer.pack()V
theorem d_Pak_pack_0 : decode prog_4_method_2_code 0 = .ok (.aload_n 0, 1) := by decide +kernel
theorem d_Pak_pack_1 : decode prog_4_method_2_code 1 = .ok (.iconst 0, 1) := by decide +kernel
theorem d_Pak_pack_2 : decode prog_4_method_2_code 2 = .ok (.putfield 26, 3) := by decide +kernel
theorem d_Pak_pack_5 : decode prog_4_method_2_code 5 = .ok (.aload_n 0, 1) := by decide +kernel
theorem d_Pak_pack_6 : decode prog_4_method_2_code 6 = .ok (.iconst 0, 1) := by decide +kernel
theorem d_Pak_pack_7 : decode prog_4_method_2_code 7 = .ok (.putfield 30, 3) := by decide +kernel
theorem d_Pak_pack_10 : decode prog_4_method_2_code 10 = .ok (.aload_n 0, 1) := by decide +kernel
theorem d_Pak_pack_11 : decode prog_4_method_2_code 11 = .ok (.iconst 0, 1) := by decide +kernel
theorem d_Pak_pack_12 : decode prog_4_method_2_code 12 = .ok (.putfield 33, 3) := by decide +kernel
theorem d_Pak_pack_15 : decode prog_4_method_2_code 15 = .ok (.aload_n 0, 1) := by decide +kernel
theorem d_Pak_pack_16 : decode prog_4_method_2_code 16 = .ok (.getfield 22, 3) := by decide +kernel
theorem d_Pak_pack_19 : decode prog_4_method_2_code 19 = .ok (.invokevirtual 36, 3) := by decide +kernel
theorem d_Pak_pack_22 : decode prog_4_method_2_code 22 = .ok (.aload_n 0, 1) := by decide +kernel
theorem d_Pak_pack_23 : decode prog_4_method_2_code 23 = .ok (.getfield 13, 3) := by decide +kernel
theorem d_Pak_pack_26 : decode prog_4_method_2_code 26 = .ok (.iconst 3, 1) := by decide +kernel
theorem d_Pak_pack_27 : decode prog_4_method_2_code 27 = .ok (.iconst 3, 1) := by decide +kernel
theorem d_Pak_pack_28 : decode prog_4_method_2_code 28 = .ok (.invokevirtual 39, 3) := by decide +kernel
theorem d_Pak_pack_31 : decode prog_4_method_2_code 31 = .ok (.iconst 0, 1) := by decide +kernel
theorem d_Pak_pack_32 : decode prog_4_method_2_code 32 = .ok (.istore_n 1, 1) := by decide +kernel
theorem d_Pak_pack_33 : decode prog_4_method_2_code 33 = .ok (.iload_n 1, 1) := by decide +kernel
theorem d_Pak_pack_34 : decode prog_4_method_2_code 34 = .ok (.aload_n 0, 1) := by decide +kernel
theorem d_Pak_pack_35 : decode prog_4_method_2_code 35 = .ok (.getfield 7, 3) := by decide +kernel
theorem d_Pak_pack_38 : decode prog_4_method_2_code 38 = .ok (.arraylength, 1) := by decide +kernel
theorem d_Pak_pack_39 : decode prog_4_method_2_code 39 = .ok (.if_icmp .ge 68, 3) := by decide +kernel
theorem d_Pak_pack_42 : decode prog_4_method_2_code 42 = .ok (.aload_n 0, 1) := by decide +kernel
theorem d_Pak_pack_43 : decode prog_4_method_2_code 43 = .ok (.getfield 22, 3) := by decide +kernel
theorem d_Pak_pack_46 : decode prog_4_method_2_code 46 = .ok (.iload_n 1, 1) := by decide +kernel
theorem d_Pak_pack_47 : decode prog_4_method_2_code 47 = .ok (.invokevirtual 45, 3) := by decide +kernel
theorem d_Pak_pack_50 : decode prog_4_method_2_code 50 = .ok (.aload_n 0, 1) := by decide +kernel
theorem d_Pak_pack_51 : decode prog_4_method_2_code 51 = .ok (.getfield 22, 3) := by decide +kernel
theorem d_Pak_pack_54 : decode prog_4_method_2_code 54 = .ok (.getfield 49, 3) := by decide +kernel
theorem d_Pak_pack_57 : decode prog_4_method_2_code 57 = .ok (.ifCond .le 34, 3) := by decide +kernel
theorem d_Pak_pack_60 : decode prog_4_method_2_code 60 = .ok (.aload_n 0, 1) := by decide +kernel
theorem d_Pak_pack_61 : decode prog_4_method_2_code 61 = .ok (.aload_n 0, 1) := by decide +kernel
theorem d_Pak_pack_62 : decode prog_4_method_2_code 62 = .ok (.getfield 22, 3) := by decide +kernel
theorem d_Pak_pack_65 : decode prog_4_method_2_code 65 = .ok (.getfield 49, 3) := by decide +kernel
theorem d_Pak_pack_68 : decode prog_4_method_2_code 68 = .ok (.aload_n 0, 1) := by decide +kernel
theorem d_Pak_pack_69 : decode prog_4_method_2_code 69 = .ok (.getfield 22, 3) := by decide +kernel
theorem d_Pak_pack_72 : decode prog_4_method_2_code 72 = .ok (.getfield 52, 3) := by decide +kernel
theorem d_Pak_pack_75 : decode prog_4_method_2_code 75 = .ok (.invokevirtual 55, 3) := by decide +kernel
theorem d_Pak_pack_78 : decode prog_4_method_2_code 78 = .ok (.iload_n 1, 1) := by decide +kernel
theorem d_Pak_pack_79 : decode prog_4_method_2_code 79 = .ok (.aload_n 0, 1) := by decide +kernel
theorem d_Pak_pack_80 : decode prog_4_method_2_code 80 = .ok (.getfield 22, 3) := by decide +kernel
theorem d_Pak_pack_83 : decode prog_4_method_2_code 83 = .ok (.getfield 49, 3) := by decide +kernel
theorem d_Pak_pack_86 : decode prog_4_method_2_code 86 = .ok (.iadd, 1) := by decide +kernel
theorem d_Pak_pack_87 : decode prog_4_method_2_code 87 = .ok (.istore_n 1, 1) := by decide +kernel
theorem d_Pak_pack_88 : decode prog_4_method_2_code 88 = .ok (.goto (-55), 3) := by decide +kernel
theorem d_Pak_pack_91 : decode prog_4_method_2_code 91 = .ok (.aload_n 0, 1) := by decide +kernel
theorem d_Pak_pack_92 : decode prog_4_method_2_code 92 = .ok (.aload_n 0, 1) := by decide +kernel
theorem d_Pak_pack_93 : decode prog_4_method_2_code 93 = .ok (.getfield 7, 3) := by decide +kernel
theorem d_Pak_pack_96 : decode prog_4_method_2_code 96 = .ok (.iload_n 1, 1) := by decide +kernel
theorem d_Pak_pack_97 : decode prog_4_method_2_code 97 = .ok (.iaload, 1) := by decide +kernel
theorem d_Pak_pack_98 : decode prog_4_method_2_code 98 = .ok (.invokevirtual 58, 3) := by decide +kernel
theorem d_Pak_pack_101 : decode prog_4_method_2_code 101 = .ok (.iinc 1 1, 3) := by decide +kernel
theorem d_Pak_pack_104 : decode prog_4_method_2_code 104 = .ok (.goto (-71), 3) := by decide +kernel
theorem d_Pak_pack_107 : decode prog_4_method_2_code 107 = .ok (.aload_n 0, 1) := by decide +kernel
theorem d_Pak_pack_108 : decode prog_4_method_2_code 108 = .ok (.sipush 256, 3) := by decide +kernel
theorem d_Pak_pack_111 : decode prog_4_method_2_code 111 = .ok (.invokevirtual 61, 3) := by decide +kernel
theorem d_Pak_pack_114 : decode prog_4_method_2_code 114 = .ok (.aload_n 0, 1) := by decide +kernel
theorem d_Pak_pack_115 : decode prog_4_method_2_code 115 = .ok (.getfield 13, 3) := by decide +kernel
theorem d_Pak_pack_118 : decode prog_4_method_2_code 118 = .ok (.invokevirtual 64, 3) := by decide +kernel
theorem d_Pak_pack_121 : decode prog_4_method_2_code 121 = .ok (.return_, 1) := by decide +kernel
abbrev y_Pak_pack : MethodName := ⟨"PicturePacker$Packer", "pack", "()V"⟩
def wp_Pak_pack_33 (n : Nat → Nat) (rb : Nat → Int32) (post : Int32 × Int32 × Int32 × Int32 × Int32 × Int32 × Int32 × Int32 × Int32 × (Nat → Int32) × (Nat → Int32) × (Nat → Int32) → Prop) : Nat → Int32 → Int32 → Int32 → Int32 → Int32 → Int32 → Int32 → Int32 → Int32 → (Nat → Int32) → (Nat → Int32) → (Nat → Int32) → Int32 → Prop
  | 0 => fun _ _ _ _ _ _ _ _ _ _ _ _ _ => False
  | N + 1 => fun Out_size Out_gathered Out_gatheredBits Pak_singles Pak_runs Pak_longest Fin_chained Fin_length Fin_distance ob nw nx y1 => ((nI (n 9) : Int32) ≤ y1 → (wp_Pak_addRunSign n Out_size Out_gathered Out_gatheredBits ob 256 (fun u6 => wp_Out_endByte n u6.1 u6.2.1 u6.2.2.1 u6.2.2.2 (fun u8 => post (u8.1, u8.2.1, u8.2.2.1, Pak_singles, Pak_runs, Pak_longest, Fin_chained, Fin_length, Fin_distance, u8.2.2.2, nw, nx))))) ∧ (¬ ((nI (n 9) : Int32) ≤ y1) → (wp_Fin_lookFrom n Fin_chained Fin_length Fin_distance rb nw nx y1 (fun u10 => ((u10.2.1 : Int32) ≤ 0 → (vp_in y1 (n 9) ∧ (wp_Pak_addSingle n Out_size Out_gathered Out_gatheredBits Pak_singles ob (rb (y1 : Int32).toNatClampNeg) (fun u14 => ∀ z16 : Int32, z16 = (y1 + 1) → (wp_Pak_pack_33 n rb post N u14.1 u14.2.1 u14.2.2.1 u14.2.2.2.1 Pak_runs Pak_longest u10.1 u10.2.1 u10.2.2.1 u14.2.2.2.2 u10.2.2.2.1 u10.2.2.2.2 z16))))) ∧ (¬ ((u10.2.1 : Int32) ≤ 0) → (wp_Pak_addRun n Out_size Out_gathered Out_gatheredBits Pak_runs Pak_longest ob u10.2.1 u10.2.2.1 (fun u17 => ∀ z19 : Int32, z19 = (y1 + u10.2.1) → (wp_Pak_pack_33 n rb post N u17.1 u17.2.1 u17.2.2.1 Pak_singles u17.2.2.2.1 u17.2.2.2.2.1 u10.1 u10.2.1 u10.2.2.1 u17.2.2.2.2.2 u10.2.2.2.1 u10.2.2.2.2 z19)))))))
def wp_Pak_pack (n : Nat → Nat) (Out_size : Int32) (Out_gathered : Int32) (Out_gatheredBits : Int32) (Pak_singles : Int32) (Pak_runs : Int32) (Pak_longest : Int32) (Fin_chained : Int32) (Fin_length : Int32) (Fin_distance : Int32) (rb : Nat → Int32) (ob : Nat → Int32) (nw : Nat → Int32) (nx : Nat → Int32) (post : Int32 × Int32 × Int32 × Int32 × Int32 × Int32 × Int32 × Int32 × Int32 × (Nat → Int32) × (Nat → Int32) × (Nat → Int32) → Prop) : Prop := wp_Fin_restart n Fin_chained nw (fun u1 => wp_Out_addBitsLowestFirst n Out_size Out_gathered Out_gatheredBits ob 3 3 (fun u3 => ∃ N20 : Nat, wp_Pak_pack_33 n rb post N20 u3.1 u3.2.1 u3.2.2.1 0 0 0 u1.1 Fin_length Fin_distance u3.2.2.2 u1.2 nx 0))
set_option maxHeartbeats 2000000 in
set_option maxRecDepth 20000 in
theorem s_Pak_pack_33 {l : Launch} {dC : Nat → ClassId} {dI : Nat → Nat → Nat} {cI : ClassId} {tb : Tbs} {a n : Nat → Nat} {p : Program} {e : Env} {s : State} {m : MethodId} {args : Array Value} {below : List Frame} {meth : Method} {c : Code} {A : Nat → Prop} (E : CallFix p m c prog_4_method_2_code 2 s args TBL "PicturePacker$Packer") (hr : meth.sig.returnType = none) (hlk : meth.locks = false) {rb : Nat → Int32} {post : Int32 × Int32 × Int32 × Int32 × Int32 × Int32 × Int32 × Int32 × Int32 × (Nat → Int32) × (Nat → Int32) × (Nat → Int32) → Prop} : ∀ (N : Nat) (Out_size : Int32) (Out_gathered : Int32) (Out_gatheredBits : Int32) (Pak_singles : Int32) (Pak_runs : Int32) (Pak_longest : Int32) (Fin_chained : Int32) (Fin_length : Int32) (Fin_distance : Int32) (ob : Nat → Int32) (nw : Nat → Int32) (nx : Nat → Int32) (y1 : Int32) (H : Heap) (locs : List Loc) (ls : Array Slot), Wl classes dC dI cI tb A s H locs [e_Out a Out_size Out_gathered Out_gatheredBits, e_Pak a Pak_singles Pak_runs Pak_longest, e_Fin a Fin_chained Fin_length Fin_distance, e_ar a n cI 9 rb, e_ar a n cI 11 ob, e_ar a n cI 13 nw, e_ar a n cI 14 nx] → lv_has ls 2 [(0, .ref (a 5)), (1, .int y1)] → wp_Pak_pack_33 n rb post N Out_size Out_gathered Out_gatheredBits Pak_singles Pak_runs Pak_longest Fin_chained Fin_length Fin_distance ob nw nx y1 → W p l e ({ frames := 8, cells := 0, slots := 0, locals := 172 }) s m args below meth c H locs 0 0 (MQ below (va_Qv post (fun u => End0 classes dC dI cI A [e_Out a u.1 u.2.1 u.2.2.1, e_Pak a u.2.2.2.1 u.2.2.2.2.1 u.2.2.2.2.2.1, e_Fin a u.2.2.2.2.2.2.1 u.2.2.2.2.2.2.2.1 u.2.2.2.2.2.2.2.2.1, e_ar a n cI 9 rb, e_ar a n cI 11 u.2.2.2.2.2.2.2.2.2.1, e_ar a n cI 13 u.2.2.2.2.2.2.2.2.2.2.1, e_ar a n cI 14 u.2.2.2.2.2.2.2.2.2.2.2]) A) args s 0 0 A) (F0 m 33 ls []) := by
  obtain ⟨hx, hb, hml, hown, hts⟩ := id E
  intro N
  induction N with
  | zero =>
    intro _ _ _ _ _ _ _ _ _ _ _ _ _ H locs ls hw hl h
    exact absurd h id
  | succ N ih =>
    intro Out_size Out_gathered Out_gatheredBits Pak_singles Pak_runs Pak_longest Fin_chained Fin_length Fin_distance ob nw nx y1 H locs ls hw hl h
    unfold wp_Pak_pack_33 at h
    refine lv_iload_n hx hb d_Pak_pack_33 rfl (lv_at hl 1 rfl) ?_
    refine lv_aload_n hx hb d_Pak_pack_34 rfl (lv_at hl 0 rfl) ?_
    refine kget (v := .ref (a 9)) (T := F_Pak) E hw in_Pak rfl 1 0 rfl (by decide) tw189 rfl d_Pak_pack_35 ?_
    refine kalen E hw 3 rfl d_Pak_pack_38 ?_
    refine lv_icmp_ge (tgt := 107) hx hb d_Pak_pack_39 (by decide) (fun c5 => ?_) (fun c5 => ?_)
    · have h := h.1 c5
      refine lv_aload_n hx hb d_Pak_pack_107 rfl (lv_at hl 0 rfl) ?_
      refine lv_sipush (v := 256) hx hb d_Pak_pack_108 (by decide) ?_
      refine kVv (y := y_Pak_addRunSign) (ws' := fun u6 => [e_Out a u6.1 u6.2.1 u6.2.2.1, e_Pak a Pak_singles Pak_runs Pak_longest, e_Fin a Fin_chained Fin_length Fin_distance, e_ar a n cI 9 rb, e_ar a n cI 11 u6.2.2.2, e_ar a n cI 13 nw, e_ar a n cI 14 nx]) (wr := [e_Fin a Fin_chained Fin_length Fin_distance, e_ar a n cI 9 rb, e_ar a n cI 13 nw, e_ar a n cI 14 nx]) (As := [.int 256]) (rest := []) E hw (c_Pak_addRunSign (l := l) (dC := dC) (dI := dI) (cI := cI) (tb := tb) (a := a) (n := n) (Out_size := Out_size) (Out_gathered := Out_gathered) (Out_gatheredBits := Out_gatheredBits) (Pak_singles := Pak_singles) (Pak_runs := Pak_runs) (Pak_longest := Pak_longest) (ob := ob) (x1 := 256) h) tw386 tw388 tw12 tw42 tw389 1 (by decide) ⟨Nat.le_of_ble_eq_true rfl, Nat.le_of_ble_eq_true rfl⟩ ⟨Nat.le_of_ble_eq_true rfl, Nat.le_of_ble_eq_true rfl⟩ ⟨rfl, rfl⟩ rfl rfl 1 rfl [0, 1, 4] [2, 3, 5, 6] [4, 5, 0, 1, 6, 2, 3] rfl rfl rfl rfl (by decide) rfl (fun _ => rfl) hl.1 rfl rfl (Nat.le_of_ble_eq_true rfl) d_Pak_pack_111 (fun u6 H locs h hw => ?_)
      refine lv_aload_n hx hb d_Pak_pack_114 rfl (lv_at hl 0 rfl) ?_
      refine kget (v := .ref (a 3)) (T := F_Pak) E hw in_Pak rfl 1 1 rfl (by decide) tw190 rfl d_Pak_pack_115 ?_
      refine kVv (y := y_Out_endByte) (ws' := fun u8 => [e_Out a u8.1 u8.2.1 u8.2.2.1, e_Pak a Pak_singles Pak_runs Pak_longest, e_Fin a Fin_chained Fin_length Fin_distance, e_ar a n cI 9 rb, e_ar a n cI 11 u8.2.2.2, e_ar a n cI 13 nw, e_ar a n cI 14 nx]) (wr := [e_Pak a Pak_singles Pak_runs Pak_longest, e_Fin a Fin_chained Fin_length Fin_distance, e_ar a n cI 9 rb, e_ar a n cI 13 nw, e_ar a n cI 14 nx]) (As := []) (rest := []) E hw (c_Out_endByte (l := l) (dC := dC) (dI := dI) (cI := cI) (tb := tb) (a := a) (n := n) (Out_size := u6.1) (Out_gathered := u6.2.1) (Out_gatheredBits := u6.2.2.1) (ob := u6.2.2.2)  h) tw406 tw357 tw358 tw40 tw359 0 (by decide) ⟨Nat.le_of_ble_eq_true rfl, Nat.le_of_ble_eq_true rfl⟩ ⟨Nat.le_of_ble_eq_true rfl, Nat.le_of_ble_eq_true rfl⟩ ⟨rfl, rfl⟩ rfl rfl 0 rfl [0, 4] [1, 2, 3, 5, 6] [5, 0, 1, 2, 6, 3, 4] rfl rfl rfl rfl (by decide) rfl (fun _ => rfl) hl.1 rfl rfl (Nat.le_of_ble_eq_true rfl) d_Pak_pack_118 (fun u8 H locs h hw => ?_)
      exact retV (out := fun u => [e_Out a u.1 u.2.1 u.2.2.1, e_Pak a u.2.2.2.1 u.2.2.2.2.1 u.2.2.2.2.2.1, e_Fin a u.2.2.2.2.2.2.1 u.2.2.2.2.2.2.2.1 u.2.2.2.2.2.2.2.2.1, e_ar a n cI 9 rb, e_ar a n cI 11 u.2.2.2.2.2.2.2.2.2.1, e_ar a n cI 13 u.2.2.2.2.2.2.2.2.2.2.1, e_ar a n cI 14 u.2.2.2.2.2.2.2.2.2.2.2]) (u := (u8.1, u8.2.1, u8.2.2.1, Pak_singles, Pak_runs, Pak_longest, Fin_chained, Fin_length, Fin_distance, u8.2.2.2, nw, nx)) E hr hlk hw h d_Pak_pack_121
    · have h := h.2 c5
      refine lv_aload_n hx hb d_Pak_pack_42 rfl (lv_at hl 0 rfl) ?_
      refine kget (v := .ref (a 6)) (T := F_Pak) E hw in_Pak rfl 1 2 rfl (by decide) tw191 rfl d_Pak_pack_43 ?_
      refine lv_iload_n hx hb d_Pak_pack_46 rfl (lv_at hl 1 rfl) ?_
      refine kVv (y := y_Fin_lookFrom) (ws' := fun u10 => [e_Out a Out_size Out_gathered Out_gatheredBits, e_Pak a Pak_singles Pak_runs Pak_longest, e_Fin a u10.1 u10.2.1 u10.2.2.1, e_ar a n cI 9 rb, e_ar a n cI 11 ob, e_ar a n cI 13 u10.2.2.2.1, e_ar a n cI 14 u10.2.2.2.2]) (wr := [e_Out a Out_size Out_gathered Out_gatheredBits, e_Pak a Pak_singles Pak_runs Pak_longest, e_ar a n cI 11 ob]) (As := [.int y1]) (rest := []) E hw (c_Fin_lookFrom (l := l) (dC := dC) (dI := dI) (cI := cI) (tb := tb) (a := a) (n := n) (Fin_chained := Fin_chained) (Fin_length := Fin_length) (Fin_distance := Fin_distance) (rb := rb) (nw := nw) (nx := nx) (x1 := y1) h) tw360 tw361 tw362 tw43 tw363 1 (by decide) ⟨Nat.le_of_ble_eq_true rfl, Nat.le_of_ble_eq_true rfl⟩ ⟨Nat.le_of_ble_eq_true rfl, Nat.le_of_ble_eq_true rfl⟩ ⟨rfl, rfl⟩ rfl rfl 2 rfl [2, 3, 5, 6] [0, 1, 4] [0, 1, 3, 4, 2, 5, 6] rfl rfl rfl rfl (by decide) rfl (fun _ => rfl) hl.1 rfl rfl (Nat.le_of_ble_eq_true rfl) d_Pak_pack_47 (fun u10 H locs h hw => ?_)
      refine lv_aload_n hx hb d_Pak_pack_50 rfl (lv_at hl 0 rfl) ?_
      refine kget (v := .ref (a 6)) (T := F_Pak) E hw in_Pak rfl 1 2 rfl (by decide) tw191 rfl d_Pak_pack_51 ?_
      refine kget (v := .int u10.2.1) (T := F_Fin) E hw in_Fin rfl 2 4 rfl (by decide) tw172 rfl d_Pak_pack_54 ?_
      refine lv_if_le (tgt := 91) hx hb d_Pak_pack_57 (by decide) (fun c12 => ?_) (fun c12 => ?_)
      · have h := h.1 c12
        refine lv_aload_n hx hb d_Pak_pack_91 rfl (lv_at hl 0 rfl) ?_
        refine lv_aload_n hx hb d_Pak_pack_92 rfl (lv_at hl 0 rfl) ?_
        refine kget (v := .ref (a 9)) (T := F_Pak) E hw in_Pak rfl 1 0 rfl (by decide) tw189 rfl d_Pak_pack_93 ?_
        refine lv_iload_n hx hb d_Pak_pack_96 rfl (lv_at hl 1 rfl) ?_
        obtain ⟨b13, h⟩ := h
        refine kald E hw 3 rfl b13 d_Pak_pack_97 ?_
        refine kVv (y := y_Pak_addSingle) (ws' := fun u14 => [e_Out a u14.1 u14.2.1 u14.2.2.1, e_Pak a u14.2.2.2.1 Pak_runs Pak_longest, e_Fin a u10.1 u10.2.1 u10.2.2.1, e_ar a n cI 9 rb, e_ar a n cI 11 u14.2.2.2.2, e_ar a n cI 13 u10.2.2.2.1, e_ar a n cI 14 u10.2.2.2.2]) (wr := [e_Fin a u10.1 u10.2.1 u10.2.2.1, e_ar a n cI 9 rb, e_ar a n cI 13 u10.2.2.2.1, e_ar a n cI 14 u10.2.2.2.2]) (As := [.int (rb (y1 : Int32).toNatClampNeg)]) (rest := []) E hw (c_Pak_addSingle (l := l) (dC := dC) (dI := dI) (cI := cI) (tb := tb) (a := a) (n := n) (Out_size := Out_size) (Out_gathered := Out_gathered) (Out_gatheredBits := Out_gatheredBits) (Pak_singles := Pak_singles) (Pak_runs := Pak_runs) (Pak_longest := Pak_longest) (ob := ob) (x1 := rb (y1 : Int32).toNatClampNeg) h) tw402 tw404 tw15 tw42 tw405 1 (by decide) ⟨Nat.le_of_ble_eq_true rfl, Nat.le_of_ble_eq_true rfl⟩ ⟨Nat.le_of_ble_eq_true rfl, Nat.le_of_ble_eq_true rfl⟩ ⟨rfl, rfl⟩ rfl rfl 1 rfl [0, 1, 4] [2, 3, 5, 6] [4, 5, 0, 1, 6, 2, 3] rfl rfl rfl rfl (by decide) rfl (fun _ => rfl) hl.1 rfl rfl (Nat.le_of_ble_eq_true rfl) d_Pak_pack_98 (fun u14 H locs h hw => ?_)
        obtain ⟨z16, ez16⟩ : ∃ z : Int32, z = y1 + 1 := ⟨_, rfl⟩
        have h := h z16 ez16
        refine lv_iinc (v := z16) (lv' := [(1, .int z16), (0, .ref (a 5))]) hx hb d_Pak_pack_101 hl (k := 1) rfl (by rw [ez16]; exact congrArg (y1 + ·) (by decide)) (by decide) rfl (fun ls hl => ?_)
        refine lv_goto (tgt := 33) hx hb d_Pak_pack_104 (by decide) ?_
        exact ih u14.1 u14.2.1 u14.2.2.1 u14.2.2.2.1 Pak_runs Pak_longest u10.1 u10.2.1 u10.2.2.1 u14.2.2.2.2 u10.2.2.2.1 u10.2.2.2.2 z16 _ _ ls hw (lv_sub hl [1, 0] rfl) h
      · have h := h.2 c12
        refine lv_aload_n hx hb d_Pak_pack_60 rfl (lv_at hl 0 rfl) ?_
        refine lv_aload_n hx hb d_Pak_pack_61 rfl (lv_at hl 0 rfl) ?_
        refine kget (v := .ref (a 6)) (T := F_Pak) E hw in_Pak rfl 1 2 rfl (by decide) tw191 rfl d_Pak_pack_62 ?_
        refine kget (v := .int u10.2.1) (T := F_Fin) E hw in_Fin rfl 2 4 rfl (by decide) tw172 rfl d_Pak_pack_65 ?_
        refine lv_aload_n hx hb d_Pak_pack_68 rfl (lv_at hl 0 rfl) ?_
        refine kget (v := .ref (a 6)) (T := F_Pak) E hw in_Pak rfl 1 2 rfl (by decide) tw191 rfl d_Pak_pack_69 ?_
        refine kget (v := .int u10.2.2.1) (T := F_Fin) E hw in_Fin rfl 2 5 rfl (by decide) tw174 rfl d_Pak_pack_72 ?_
        refine kVv (y := y_Pak_addRun) (ws' := fun u17 => [e_Out a u17.1 u17.2.1 u17.2.2.1, e_Pak a Pak_singles u17.2.2.2.1 u17.2.2.2.2.1, e_Fin a u10.1 u10.2.1 u10.2.2.1, e_ar a n cI 9 rb, e_ar a n cI 11 u17.2.2.2.2.2, e_ar a n cI 13 u10.2.2.2.1, e_ar a n cI 14 u10.2.2.2.2]) (wr := [e_Fin a u10.1 u10.2.1 u10.2.2.1, e_ar a n cI 9 rb, e_ar a n cI 13 u10.2.2.2.1, e_ar a n cI 14 u10.2.2.2.2]) (As := [.int u10.2.1, .int u10.2.2.1]) (rest := []) E hw (c_Pak_addRun (l := l) (dC := dC) (dI := dI) (cI := cI) (tb := tb) (a := a) (n := n) (Out_size := Out_size) (Out_gathered := Out_gathered) (Out_gatheredBits := Out_gatheredBits) (Pak_singles := Pak_singles) (Pak_runs := Pak_runs) (Pak_longest := Pak_longest) (ob := ob) (x1 := u10.2.1) (x2 := u10.2.2.1) h) tw377 tw379 tw10 tw42 tw380 2 (by decide) ⟨Nat.le_of_ble_eq_true rfl, Nat.le_of_ble_eq_true rfl⟩ ⟨Nat.le_of_ble_eq_true rfl, Nat.le_of_ble_eq_true rfl⟩ ⟨rfl, rfl⟩ rfl rfl 1 rfl [0, 1, 4] [2, 3, 5, 6] [4, 5, 0, 1, 6, 2, 3] rfl rfl rfl rfl (by decide) rfl (fun _ => rfl) hl.1 rfl rfl (Nat.le_of_ble_eq_true rfl) d_Pak_pack_75 (fun u17 H locs h hw => ?_)
        refine lv_iload_n hx hb d_Pak_pack_78 rfl (lv_at hl 1 rfl) ?_
        refine lv_aload_n hx hb d_Pak_pack_79 rfl (lv_at hl 0 rfl) ?_
        refine kget (v := .ref (a 6)) (T := F_Pak) E hw in_Pak rfl 1 2 rfl (by decide) tw191 rfl d_Pak_pack_80 ?_
        refine kget (v := .int u10.2.1) (T := F_Fin) E hw in_Fin rfl 2 4 rfl (by decide) tw172 rfl d_Pak_pack_83 ?_
        refine lv_iadd hx hb d_Pak_pack_86 ?_
        refine lv_topi (fun z19 ez19 => ?_)
        have h := h z19 ez19
        refine lv_istore_n (lv' := [(1, .int z19), (0, .ref (a 5))]) hx hb d_Pak_pack_87 rfl hl (by decide) rfl (fun ls hl => ?_)
        refine lv_goto (tgt := 33) hx hb d_Pak_pack_88 (by decide) ?_
        exact ih u17.1 u17.2.1 u17.2.2.1 Pak_singles u17.2.2.2.1 u17.2.2.2.2.1 u10.1 u10.2.1 u10.2.2.1 u17.2.2.2.2.2 u10.2.2.2.1 u10.2.2.2.2 z19 _ _ ls hw (lv_sub hl [1, 0] rfl) h
set_option maxHeartbeats 2000000 in
set_option maxRecDepth 20000 in
theorem c_Pak_pack {l : Launch} {dC : Nat → ClassId} {dI : Nat → Nat → Nat} {cI : ClassId} {tb : Tbs} {a n : Nat → Nat} {Out_size : Int32} {Out_gathered : Int32} {Out_gatheredBits : Int32} {Pak_singles : Int32} {Pak_runs : Int32} {Pak_longest : Int32} {Fin_chained : Int32} {Fin_length : Int32} {Fin_distance : Int32} {rb : Nat → Int32} {ob : Nat → Int32} {nw : Nat → Int32} {nx : Nat → Int32} {post : Int32 × Int32 × Int32 × Int32 × Int32 × Int32 × Int32 × Int32 × Int32 × (Nat → Int32) × (Nat → Int32) × (Nat → Int32) → Prop} (h : wp_Pak_pack n Out_size Out_gathered Out_gatheredBits Pak_singles Pak_runs Pak_longest Fin_chained Fin_length Fin_distance rb ob nw nx post) : CtV classes dC dI cI tb l y_Pak_pack prog_4_method_2_code 2 ({ frames := 8, cells := 0, slots := 0, locals := 172 }) [.ref (a 5)] [e_Out a Out_size Out_gathered Out_gatheredBits, e_Pak a Pak_singles Pak_runs Pak_longest, e_Fin a Fin_chained Fin_length Fin_distance, e_ar a n cI 9 rb, e_ar a n cI 11 ob, e_ar a n cI 13 nw, e_ar a n cI 14 nx] (Int32 × Int32 × Int32 × Int32 × Int32 × Int32 × Int32 × Int32 × Int32 × (Nat → Int32) × (Nat → Int32) × (Nat → Int32)) (fun u => [e_Out a u.1 u.2.1 u.2.2.1, e_Pak a u.2.2.2.1 u.2.2.2.2.1 u.2.2.2.2.2.1, e_Fin a u.2.2.2.2.2.2.1 u.2.2.2.2.2.2.2.1 u.2.2.2.2.2.2.2.2.1, e_ar a n cI 9 rb, e_ar a n cI 11 u.2.2.2.2.2.2.2.2.2.1, e_ar a n cI 13 u.2.2.2.2.2.2.2.2.2.2.1, e_ar a n cI 14 u.2.2.2.2.2.2.2.2.2.2.2]) post := by
  refine startV (by decide) (Nat.le_of_ble_eq_true rfl) ?_
  intro p e s m below meth c ls E hr hlk hnm hl hw
  have hl : lv_has ls 2 [(0, .ref (a 5))] := hl
  generalize va_A [e_Out a Out_size Out_gathered Out_gatheredBits, e_Pak a Pak_singles Pak_runs Pak_longest, e_Fin a Fin_chained Fin_length Fin_distance, e_ar a n cI 9 rb, e_ar a n cI 11 ob, e_ar a n cI 13 nw, e_ar a n cI 14 nx] s.heap.size = A at hw ⊢
  obtain ⟨hx, hb, hml, hown, hts⟩ := id E
  unfold wp_Pak_pack at h
  refine lv_aload_n hx hb d_Pak_pack_0 rfl (lv_at hl 0 rfl) ?_
  refine lv_iconst (v := 0) hx hb d_Pak_pack_1 (by decide) ?_
  refine kput (v := .int 0) (ty := .int) (T := F_Pak) (ws' := [e_Out a Out_size Out_gathered Out_gatheredBits, e_Pak a 0 Pak_runs Pak_longest, e_Fin a Fin_chained Fin_length Fin_distance, e_ar a n cI 9 rb, e_ar a n cI 11 ob, e_ar a n cI 13 nw, e_ar a n cI 14 nx]) E hw in_Pak t_Pak t_Pak_ok n_Pak rfl 1 3 rfl (by decide) tw192 rfl rfl rfl rfl (Nat.le_of_ble_eq_true rfl) rfl d_Pak_pack_2 (fun H locs hw => ?_)
  refine lv_aload_n hx hb d_Pak_pack_5 rfl (lv_at hl 0 rfl) ?_
  refine lv_iconst (v := 0) hx hb d_Pak_pack_6 (by decide) ?_
  refine kput (v := .int 0) (ty := .int) (T := F_Pak) (ws' := [e_Out a Out_size Out_gathered Out_gatheredBits, e_Pak a 0 0 Pak_longest, e_Fin a Fin_chained Fin_length Fin_distance, e_ar a n cI 9 rb, e_ar a n cI 11 ob, e_ar a n cI 13 nw, e_ar a n cI 14 nx]) E hw in_Pak t_Pak t_Pak_ok n_Pak rfl 1 4 rfl (by decide) tw194 rfl rfl rfl rfl (Nat.le_of_ble_eq_true rfl) rfl d_Pak_pack_7 (fun H locs hw => ?_)
  refine lv_aload_n hx hb d_Pak_pack_10 rfl (lv_at hl 0 rfl) ?_
  refine lv_iconst (v := 0) hx hb d_Pak_pack_11 (by decide) ?_
  refine kput (v := .int 0) (ty := .int) (T := F_Pak) (ws' := [e_Out a Out_size Out_gathered Out_gatheredBits, e_Pak a 0 0 0, e_Fin a Fin_chained Fin_length Fin_distance, e_ar a n cI 9 rb, e_ar a n cI 11 ob, e_ar a n cI 13 nw, e_ar a n cI 14 nx]) E hw in_Pak t_Pak t_Pak_ok n_Pak rfl 1 5 rfl (by decide) tw196 rfl rfl rfl rfl (Nat.le_of_ble_eq_true rfl) rfl d_Pak_pack_12 (fun H locs hw => ?_)
  refine lv_aload_n hx hb d_Pak_pack_15 rfl (lv_at hl 0 rfl) ?_
  refine kget (v := .ref (a 6)) (T := F_Pak) E hw in_Pak rfl 1 2 rfl (by decide) tw191 rfl d_Pak_pack_16 ?_
  refine kVv (y := y_Fin_restart) (ws' := fun u1 => [e_Out a Out_size Out_gathered Out_gatheredBits, e_Pak a 0 0 0, e_Fin a u1.1 Fin_length Fin_distance, e_ar a n cI 9 rb, e_ar a n cI 11 ob, e_ar a n cI 13 u1.2, e_ar a n cI 14 nx]) (wr := [e_Out a Out_size Out_gathered Out_gatheredBits, e_Pak a 0 0 0, e_ar a n cI 9 rb, e_ar a n cI 11 ob, e_ar a n cI 14 nx]) (As := []) (rest := []) E hw (c_Fin_restart (l := l) (dC := dC) (dI := dI) (cI := cI) (tb := tb) (a := a) (n := n) (Fin_chained := Fin_chained) (Fin_length := Fin_length) (Fin_distance := Fin_distance) (nw := nw)  h) tw343 tw344 tw345 tw43 tw346 0 (by decide) ⟨Nat.le_of_ble_eq_true rfl, Nat.le_of_ble_eq_true rfl⟩ ⟨Nat.le_of_ble_eq_true rfl, Nat.le_of_ble_eq_true rfl⟩ ⟨rfl, rfl⟩ rfl rfl 2 rfl [2, 5] [0, 1, 3, 4, 6] [0, 1, 5, 2, 3, 6, 4] rfl rfl rfl rfl (by decide) rfl (fun _ => rfl) hl.1 rfl rfl (Nat.le_of_ble_eq_true rfl) d_Pak_pack_19 (fun u1 H locs h hw => ?_)
  refine lv_aload_n hx hb d_Pak_pack_22 rfl (lv_at hl 0 rfl) ?_
  refine kget (v := .ref (a 3)) (T := F_Pak) E hw in_Pak rfl 1 1 rfl (by decide) tw190 rfl d_Pak_pack_23 ?_
  refine lv_iconst (v := 3) hx hb d_Pak_pack_26 (by decide) ?_
  refine lv_iconst (v := 3) hx hb d_Pak_pack_27 (by decide) ?_
  refine kVv (y := y_Out_addBitsLowestFirst) (ws' := fun u3 => [e_Out a u3.1 u3.2.1 u3.2.2.1, e_Pak a 0 0 0, e_Fin a u1.1 Fin_length Fin_distance, e_ar a n cI 9 rb, e_ar a n cI 11 u3.2.2.2, e_ar a n cI 13 u1.2, e_ar a n cI 14 nx]) (wr := [e_Pak a 0 0 0, e_Fin a u1.1 Fin_length Fin_distance, e_ar a n cI 9 rb, e_ar a n cI 13 u1.2, e_ar a n cI 14 nx]) (As := [.int 3, .int 3]) (rest := []) E hw (c_Out_addBitsLowestFirst (l := l) (dC := dC) (dI := dI) (cI := cI) (tb := tb) (a := a) (n := n) (Out_size := Out_size) (Out_gathered := Out_gathered) (Out_gatheredBits := Out_gatheredBits) (ob := ob) (x1 := 3) (x2 := 3) h) tw348 tw349 tw350 tw40 tw351 2 (by decide) ⟨Nat.le_of_ble_eq_true rfl, Nat.le_of_ble_eq_true rfl⟩ ⟨Nat.le_of_ble_eq_true rfl, Nat.le_of_ble_eq_true rfl⟩ ⟨rfl, rfl⟩ rfl rfl 0 rfl [0, 4] [1, 2, 3, 5, 6] [5, 0, 1, 2, 6, 3, 4] rfl rfl rfl rfl (by decide) rfl (fun _ => rfl) hl.1 rfl rfl (Nat.le_of_ble_eq_true rfl) d_Pak_pack_28 (fun u3 H locs h hw => ?_)
  refine lv_iconst (v := 0) hx hb d_Pak_pack_31 (by decide) ?_
  refine lv_istore_n (lv' := [(1, .int 0), (0, .ref (a 5))]) hx hb d_Pak_pack_32 rfl hl (by decide) rfl (fun ls hl => ?_)
  obtain ⟨N20, h⟩ := h
  exact s_Pak_pack_33 (a := a) (n := n) (tb := tb) E hr hlk  N20 u3.1 u3.2.1 u3.2.2.1 0 0 0 u1.1 Fin_length Fin_distance u3.2.2.2 u1.2 nx 0 _ _ ls hw (lv_sub hl [1, 0] rfl) h
