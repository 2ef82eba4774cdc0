-- PicturePacker$Output.addByte(I)V
theorem d_Out_addByte_0 : decode prog_3_method_4_code 0 = .ok (.aload_n 0, 1) := by decide +kernel
theorem d_Out_addByte_1 : decode prog_3_method_4_code 1 = .ok (.getfield 13, 3) := by decide +kernel
theorem d_Out_addByte_4 : decode prog_3_method_4_code 4 = .ok (.ifCond .lt 39, 3) := by decide +kernel
theorem d_Out_addByte_7 : decode prog_3_method_4_code 7 = .ok (.aload_n 0, 1) := by decide +kernel
theorem d_Out_addByte_8 : decode prog_3_method_4_code 8 = .ok (.getfield 13, 3) := by decide +kernel
theorem d_Out_addByte_11 : decode prog_3_method_4_code 11 = .ok (.aload_n 0, 1) := by decide +kernel
theorem d_Out_addByte_12 : decode prog_3_method_4_code 12 = .ok (.getfield 7, 3) := by decide +kernel
theorem d_Out_addByte_15 : decode prog_3_method_4_code 15 = .ok (.arraylength, 1) := by decide +kernel
theorem d_Out_addByte_16 : decode prog_3_method_4_code 16 = .ok (.if_icmp .ge 27, 3) := by decide +kernel
theorem d_Out_addByte_19 : decode prog_3_method_4_code 19 = .ok (.aload_n 0, 1) := by decide +kernel
theorem d_Out_addByte_20 : decode prog_3_method_4_code 20 = .ok (.getfield 7, 3) := by decide +kernel
theorem d_Out_addByte_23 : decode prog_3_method_4_code 23 = .ok (.aload_n 0, 1) := by decide +kernel
theorem d_Out_addByte_24 : decode prog_3_method_4_code 24 = .ok (.getfield 13, 3) := by decide +kernel
theorem d_Out_addByte_27 : decode prog_3_method_4_code 27 = .ok (.iload_n 1, 1) := by decide +kernel
theorem d_Out_addByte_28 : decode prog_3_method_4_code 28 = .ok (.sipush 255, 3) := by decide +kernel
theorem d_Out_addByte_31 : decode prog_3_method_4_code 31 = .ok (.iand, 1) := by decide +kernel
theorem d_Out_addByte_32 : decode prog_3_method_4_code 32 = .ok (.iastore, 1) := by decide +kernel
theorem d_Out_addByte_33 : decode prog_3_method_4_code 33 = .ok (.aload_n 0, 1) := by decide +kernel
theorem d_Out_addByte_34 : decode prog_3_method_4_code 34 = .ok (.dup, 1) := by decide +kernel
theorem d_Out_addByte_35 : decode prog_3_method_4_code 35 = .ok (.getfield 13, 3) := by decide +kernel
theorem d_Out_addByte_38 : decode prog_3_method_4_code 38 = .ok (.iconst 1, 1) := by decide +kernel
theorem d_Out_addByte_39 : decode prog_3_method_4_code 39 = .ok (.iadd, 1) := by decide +kernel
theorem d_Out_addByte_40 : decode prog_3_method_4_code 40 = .ok (.putfield 13, 3) := by decide +kernel
theorem d_Out_addByte_43 : decode prog_3_method_4_code 43 = .ok (.return_, 1) := by decide +kernel
abbrev y_Out_addByte : MethodName := ⟨"PicturePacker$Output", "addByte", "(I)V"⟩
def wp_Out_addByte (n : Nat → Nat) (Out_size : Int32) (ob : Nat → Int32) (x1 : Int32) (post : Int32 × (Nat → Int32) → Prop) : Prop := ((Out_size : Int32) < 0 → (post (Out_size, ob))) ∧ (¬ ((Out_size : Int32) < 0) → (((nI (n 11) : Int32) ≤ Out_size → (post (Out_size, ob))) ∧ (¬ ((nI (n 11) : Int32) ≤ Out_size) → (∀ z3 : Int32, z3 = (x1 &&& 255) → (vp_in Out_size (n 11) ∧ (∀ f5 : Nat → Int32, f5 = upd ob (Out_size : Int32).toNatClampNeg z3 → (∀ z6 : Int32, z6 = (Out_size + 1) → (post (z6, f5)))))))))
set_option maxHeartbeats 2000000 in
set_option maxRecDepth 20000 in
theorem c_Out_addByte {l : Launch} {dC : Nat → ClassId} {dI : Nat → Nat → Nat} {cI : ClassId} {tb : Tbs} {a n : Nat → Nat} {Out_size : Int32} {Out_gathered : Int32} {Out_gatheredBits : Int32} {ob : Nat → Int32} {x1 : Int32} {post : Int32 × (Nat → Int32) → Prop} (h : wp_Out_addByte n Out_size ob x1 post) : CtV classes dC dI cI tb l y_Out_addByte prog_3_method_4_code 2 ({ frames := 0, cells := 0, slots := 0, locals := 0 }) [.ref (a 3), .int x1] [e_Out a Out_size Out_gathered Out_gatheredBits, e_ar a n cI 11 ob] (Int32 × (Nat → Int32)) (fun u => [e_Out a u.1 Out_gathered Out_gatheredBits, e_ar a n cI 11 u.2]) post := by
  refine startV (by decide) (Nat.le_of_ble_eq_true rfl) ?_
  intro p e s m below meth c ls E hr hlk hnm hl hw
  have hl : lv_has ls 2 [(0, .ref (a 3)), (1, .int x1)] := hl
  generalize va_A [e_Out a Out_size Out_gathered Out_gatheredBits, e_ar a n cI 11 ob] s.heap.size = A at hw ⊢
  obtain ⟨hx, hb, hml, hown, hts⟩ := id E
  unfold wp_Out_addByte at h
  refine lv_aload_n hx hb d_Out_addByte_0 rfl (lv_at hl 0 rfl) ?_
  refine kget (v := .int Out_size) (T := F_Out) E hw in_Out rfl 0 1 rfl (by decide) tw120 rfl d_Out_addByte_1 ?_
  refine lv_if_lt (tgt := 43) hx hb d_Out_addByte_4 (by decide) (fun c1 => ?_) (fun c1 => ?_)
  · have h := h.1 c1
    exact retV (out := fun u => [e_Out a u.1 Out_gathered Out_gatheredBits, e_ar a n cI 11 u.2]) (u := (Out_size, ob)) E hr hlk hw h d_Out_addByte_43
  · have h := h.2 c1
    refine lv_aload_n hx hb d_Out_addByte_7 rfl (lv_at hl 0 rfl) ?_
    refine kget (v := .int Out_size) (T := F_Out) E hw in_Out rfl 0 1 rfl (by decide) tw120 rfl d_Out_addByte_8 ?_
    refine lv_aload_n hx hb d_Out_addByte_11 rfl (lv_at hl 0 rfl) ?_
    refine kget (v := .ref (a 11)) (T := F_Out) E hw in_Out rfl 0 0 rfl (by decide) tw117 rfl d_Out_addByte_12 ?_
    refine kalen E hw 1 rfl d_Out_addByte_15 ?_
    refine lv_icmp_ge (tgt := 43) hx hb d_Out_addByte_16 (by decide) (fun c2 => ?_) (fun c2 => ?_)
    · have h := h.1 c2
      exact retV (out := fun u => [e_Out a u.1 Out_gathered Out_gatheredBits, e_ar a n cI 11 u.2]) (u := (Out_size, ob)) E hr hlk hw h d_Out_addByte_43
    · have h := h.2 c2
      refine lv_aload_n hx hb d_Out_addByte_19 rfl (lv_at hl 0 rfl) ?_
      refine kget (v := .ref (a 11)) (T := F_Out) E hw in_Out rfl 0 0 rfl (by decide) tw117 rfl d_Out_addByte_20 ?_
      refine lv_aload_n hx hb d_Out_addByte_23 rfl (lv_at hl 0 rfl) ?_
      refine kget (v := .int Out_size) (T := F_Out) E hw in_Out rfl 0 1 rfl (by decide) tw120 rfl d_Out_addByte_24 ?_
      refine lv_iload_n hx hb d_Out_addByte_27 rfl (lv_at hl 1 rfl) ?_
      refine lv_sipush (v := 255) hx hb d_Out_addByte_28 (by decide) ?_
      refine lv_iand hx hb d_Out_addByte_31 ?_
      refine lv_topi (fun z3 ez3 => ?_)
      have h := h z3 ez3
      obtain ⟨b4, h⟩ := h
      obtain ⟨f5, ef5⟩ : ∃ z : Nat → Int32, z = upd ob (Out_size : Int32).toNatClampNeg z3 := ⟨_, rfl⟩
      have h := h f5 ef5
      refine kast (ws' := [e_Out a Out_size Out_gathered Out_gatheredBits, e_ar a n cI 11 f5]) E hw 1 rfl b4 (by rw [ef5]; rfl) d_Out_addByte_32 (fun H locs hw => ?_)
      refine lv_aload_n hx hb d_Out_addByte_33 rfl (lv_at hl 0 rfl) ?_
      refine lv_dup hx hb d_Out_addByte_34 rfl ?_
      refine kget (v := .int Out_size) (T := F_Out) E hw in_Out rfl 0 1 rfl (by decide) tw120 rfl d_Out_addByte_35 ?_
      refine lv_iconst (v := 1) hx hb d_Out_addByte_38 (by decide) ?_
      refine lv_iadd hx hb d_Out_addByte_39 ?_
      refine lv_topi (fun z6 ez6 => ?_)
      have h := h z6 ez6
      refine kput (v := .int z6) (ty := .int) (T := F_Out) (ws' := [e_Out a z6 Out_gathered Out_gatheredBits, e_ar a n cI 11 f5]) E hw in_Out t_Out t_Out_ok n_Out rfl 0 1 rfl (by decide) tw120 rfl rfl rfl rfl (Nat.le_of_ble_eq_true rfl) rfl d_Out_addByte_40 (fun H locs hw => ?_)
      exact retV (out := fun u => [e_Out a u.1 Out_gathered Out_gatheredBits, e_ar a n cI 11 u.2]) (u := (z6, f5)) E hr hlk hw h d_Out_addByte_43
-- PicturePacker$Output.addBit(I)V
theorem d_Out_addBit_0 : decode prog_3_method_10_code 0 = .ok (.aload_n 0, 1) := by decide +kernel
theorem d_Out_addBit_1 : decode prog_3_method_10_code 1 = .ok (.dup, 1) := by decide +kernel
theorem d_Out_addBit_2 : decode prog_3_method_10_code 2 = .ok (.getfield 17, 3) := by decide +kernel
theorem d_Out_addBit_5 : decode prog_3_method_10_code 5 = .ok (.iload_n 1, 1) := by decide +kernel
theorem d_Out_addBit_6 : decode prog_3_method_10_code 6 = .ok (.aload_n 0, 1) := by decide +kernel
theorem d_Out_addBit_7 : decode prog_3_method_10_code 7 = .ok (.getfield 20, 3) := by decide +kernel
theorem d_Out_addBit_10 : decode prog_3_method_10_code 10 = .ok (.ishl, 1) := by decide +kernel
theorem d_Out_addBit_11 : decode prog_3_method_10_code 11 = .ok (.ior, 1) := by decide +kernel
theorem d_Out_addBit_12 : decode prog_3_method_10_code 12 = .ok (.putfield 17, 3) := by decide +kernel
theorem d_Out_addBit_15 : decode prog_3_method_10_code 15 = .ok (.aload_n 0, 1) := by decide +kernel
theorem d_Out_addBit_16 : decode prog_3_method_10_code 16 = .ok (.dup, 1) := by decide +kernel
theorem d_Out_addBit_17 : decode prog_3_method_10_code 17 = .ok (.getfield 20, 3) := by decide +kernel
theorem d_Out_addBit_20 : decode prog_3_method_10_code 20 = .ok (.iconst 1, 1) := by decide +kernel
theorem d_Out_addBit_21 : decode prog_3_method_10_code 21 = .ok (.iadd, 1) := by decide +kernel
theorem d_Out_addBit_22 : decode prog_3_method_10_code 22 = .ok (.putfield 20, 3) := by decide +kernel
theorem d_Out_addBit_25 : decode prog_3_method_10_code 25 = .ok (.aload_n 0, 1) := by decide +kernel
theorem d_Out_addBit_26 : decode prog_3_method_10_code 26 = .ok (.getfield 20, 3) := by decide +kernel
theorem d_Out_addBit_29 : decode prog_3_method_10_code 29 = .ok (.bipush 8, 2) := by decide +kernel
theorem d_Out_addBit_31 : decode prog_3_method_10_code 31 = .ok (.if_icmp .ne 21, 3) := by decide +kernel
theorem d_Out_addBit_34 : decode prog_3_method_10_code 34 = .ok (.aload_n 0, 1) := by decide +kernel
theorem d_Out_addBit_35 : decode prog_3_method_10_code 35 = .ok (.aload_n 0, 1) := by decide +kernel
theorem d_Out_addBit_36 : decode prog_3_method_10_code 36 = .ok (.getfield 17, 3) := by decide +kernel
theorem d_Out_addBit_39 : decode prog_3_method_10_code 39 = .ok (.invokevirtual 23, 3) := by decide +kernel
theorem d_Out_addBit_42 : decode prog_3_method_10_code 42 = .ok (.aload_n 0, 1) := by decide +kernel
theorem d_Out_addBit_43 : decode prog_3_method_10_code 43 = .ok (.iconst 0, 1) := by decide +kernel
theorem d_Out_addBit_44 : decode prog_3_method_10_code 44 = .ok (.putfield 17, 3) := by decide +kernel
theorem d_Out_addBit_47 : decode prog_3_method_10_code 47 = .ok (.aload_n 0, 1) := by decide +kernel
theorem d_Out_addBit_48 : decode prog_3_method_10_code 48 = .ok (.iconst 0, 1) := by decide +kernel
theorem d_Out_addBit_49 : decode prog_3_method_10_code 49 = .ok (.putfield 20, 3) := by decide +kernel
theorem d_Out_addBit_52 : decode prog_3_method_10_code 52 = .ok (.return_, 1) := by decide +kernel
abbrev y_Out_addBit : MethodName := ⟨"PicturePacker$Output", "addBit", "(I)V"⟩
def wp_Out_addBit (n : Nat → Nat) (Out_size : Int32) (Out_gathered : Int32) (Out_gatheredBits : Int32) (ob : Nat → Int32) (x1 : Int32) (post : Int32 × Int32 × Int32 × (Nat → Int32) → Prop) : Prop := ∀ z1 : Int32, z1 = (Out_gathered ||| ((x1 : Int32) <<< (Out_gatheredBits &&& 31))) → (∀ z2 : Int32, z2 = (Out_gatheredBits + 1) → ((¬ (z2 : Int32) = 8 → (post (Out_size, z1, z2, ob))) ∧ ((z2 : Int32) = 8 → (wp_Out_addByte n Out_size ob z1 (fun u4 => post (u4.1, 0, 0, u4.2))))))
set_option maxHeartbeats 2000000 in
set_option maxRecDepth 20000 in
theorem c_Out_addBit {l : Launch} {dC : Nat → ClassId} {dI : Nat → Nat → Nat} {cI : ClassId} {tb : Tbs} {a n : Nat → Nat} {Out_size : Int32} {Out_gathered : Int32} {Out_gatheredBits : Int32} {ob : Nat → Int32} {x1 : Int32} {post : Int32 × Int32 × Int32 × (Nat → Int32) → Prop} (h : wp_Out_addBit n Out_size Out_gathered Out_gatheredBits ob x1 post) : CtV classes dC dI cI tb l y_Out_addBit prog_3_method_10_code 2 ({ frames := 1, cells := 0, slots := 0, locals := 21 }) [.ref (a 3), .int x1] [e_Out a Out_size Out_gathered Out_gatheredBits, e_ar a n cI 11 ob] (Int32 × Int32 × Int32 × (Nat → Int32)) (fun u => [e_Out a u.1 u.2.1 u.2.2.1, e_ar a n cI 11 u.2.2.2]) post := by
  refine startV (by decide) (Nat.le_of_ble_eq_true rfl) ?_
  intro p e s m below meth c ls E hr hlk hnm hl hw
  have hl : lv_has ls 2 [(0, .ref (a 3)), (1, .int x1)] := hl
  generalize va_A [e_Out a Out_size Out_gathered Out_gatheredBits, e_ar a n cI 11 ob] s.heap.size = A at hw ⊢
  obtain ⟨hx, hb, hml, hown, hts⟩ := id E
  unfold wp_Out_addBit at h
  refine lv_aload_n hx hb d_Out_addBit_0 rfl (lv_at hl 0 rfl) ?_
  refine lv_dup hx hb d_Out_addBit_1 rfl ?_
  refine kget (v := .int Out_gathered) (T := F_Out) E hw in_Out rfl 0 2 rfl (by decide) tw123 rfl d_Out_addBit_2 ?_
  refine lv_iload_n hx hb d_Out_addBit_5 rfl (lv_at hl 1 rfl) ?_
  refine lv_aload_n hx hb d_Out_addBit_6 rfl (lv_at hl 0 rfl) ?_
  refine kget (v := .int Out_gatheredBits) (T := F_Out) E hw in_Out rfl 0 3 rfl (by decide) tw124 rfl d_Out_addBit_7 ?_
  refine lv_ishl hx hb d_Out_addBit_10 ?_
  refine lv_ior hx hb d_Out_addBit_11 ?_
  refine lv_topi (fun z1 ez1 => ?_)
  have h := h z1 ez1
  refine kput (v := .int z1) (ty := .int) (T := F_Out) (ws' := [e_Out a Out_size z1 Out_gatheredBits, e_ar a n cI 11 ob]) E hw in_Out t_Out t_Out_ok n_Out rfl 0 2 rfl (by decide) tw123 rfl rfl rfl rfl (Nat.le_of_ble_eq_true rfl) rfl d_Out_addBit_12 (fun H locs hw => ?_)
  refine lv_aload_n hx hb d_Out_addBit_15 rfl (lv_at hl 0 rfl) ?_
  refine lv_dup hx hb d_Out_addBit_16 rfl ?_
  refine kget (v := .int Out_gatheredBits) (T := F_Out) E hw in_Out rfl 0 3 rfl (by decide) tw124 rfl d_Out_addBit_17 ?_
  refine lv_iconst (v := 1) hx hb d_Out_addBit_20 (by decide) ?_
  refine lv_iadd hx hb d_Out_addBit_21 ?_
  refine lv_topi (fun z2 ez2 => ?_)
  have h := h z2 ez2
  refine kput (v := .int z2) (ty := .int) (T := F_Out) (ws' := [e_Out a Out_size z1 z2, e_ar a n cI 11 ob]) E hw in_Out t_Out t_Out_ok n_Out rfl 0 3 rfl (by decide) tw124 rfl rfl rfl rfl (Nat.le_of_ble_eq_true rfl) rfl d_Out_addBit_22 (fun H locs hw => ?_)
  refine lv_aload_n hx hb d_Out_addBit_25 rfl (lv_at hl 0 rfl) ?_
  refine kget (v := .int z2) (T := F_Out) E hw in_Out rfl 0 3 rfl (by decide) tw124 rfl d_Out_addBit_26 ?_
  refine lv_bipush (v := 8) hx hb d_Out_addBit_29 (by decide) ?_
  refine lv_icmp_ne (tgt := 52) hx hb d_Out_addBit_31 (by decide) (fun c3 => ?_) (fun c3 => ?_)
  · have h := h.1 c3
    exact retV (out := fun u => [e_Out a u.1 u.2.1 u.2.2.1, e_ar a n cI 11 u.2.2.2]) (u := (Out_size, z1, z2, ob)) E hr hlk hw h d_Out_addBit_52
  · have h := h.2 c3
    refine lv_aload_n hx hb d_Out_addBit_34 rfl (lv_at hl 0 rfl) ?_
    refine lv_aload_n hx hb d_Out_addBit_35 rfl (lv_at hl 0 rfl) ?_
    refine kget (v := .int z1) (T := F_Out) E hw in_Out rfl 0 2 rfl (by decide) tw123 rfl d_Out_addBit_36 ?_
    refine kVv (y := y_Out_addByte) (ws' := fun u4 => [e_Out a u4.1 z1 z2, e_ar a n cI 11 u4.2]) (wr := []) (As := [.int z1]) (rest := []) E hw (c_Out_addByte (l := l) (dC := dC) (dI := dI) (cI := cI) (tb := tb) (a := a) (n := n) (Out_size := Out_size) (Out_gathered := z1) (Out_gatheredBits := z2) (ob := ob) (x1 := z1) h) tw298 tw299 tw300 tw38 tw301 1 (by decide) ⟨Nat.le_of_ble_eq_true rfl, Nat.le_of_ble_eq_true rfl⟩ ⟨Nat.le_of_ble_eq_true rfl, Nat.le_of_ble_eq_true rfl⟩ ⟨rfl, rfl⟩ rfl rfl 0 rfl [0, 1] [] [0, 1] rfl rfl rfl rfl (by decide) rfl (fun _ => rfl) hl.1 rfl rfl (Nat.le_of_ble_eq_true rfl) d_Out_addBit_39 (fun u4 H locs h hw => ?_)
    refine lv_aload_n hx hb d_Out_addBit_42 rfl (lv_at hl 0 rfl) ?_
    refine lv_iconst (v := 0) hx hb d_Out_addBit_43 (by decide) ?_
    refine kput (v := .int 0) (ty := .int) (T := F_Out) (ws' := [e_Out a u4.1 0 z2, e_ar a n cI 11 u4.2]) E hw in_Out t_Out t_Out_ok n_Out rfl 0 2 rfl (by decide) tw123 rfl rfl rfl rfl (Nat.le_of_ble_eq_true rfl) rfl d_Out_addBit_44 (fun H locs hw => ?_)
    refine lv_aload_n hx hb d_Out_addBit_47 rfl (lv_at hl 0 rfl) ?_
    refine lv_iconst (v := 0) hx hb d_Out_addBit_48 (by decide) ?_
    refine kput (v := .int 0) (ty := .int) (T := F_Out) (ws' := [e_Out a u4.1 0 0, e_ar a n cI 11 u4.2]) E hw in_Out t_Out t_Out_ok n_Out rfl 0 3 rfl (by decide) tw124 rfl rfl rfl rfl (Nat.le_of_ble_eq_true rfl) rfl d_Out_addBit_49 (fun H locs hw => ?_)
    exact retV (out := fun u => [e_Out a u.1 u.2.1 u.2.2.1, e_ar a n cI 11 u.2.2.2]) (u := (u4.1, 0, 0, u4.2)) E hr hlk hw h d_Out_addBit_52
-- PicturePacker$Output.addBitsHighestFirst(II)V
theorem d_Out_addBitsHighestFirst_0 : decode prog_3_method_8_code 0 = .ok (.iload_n 2, 1) := by decide +kernel
theorem d_Out_addBitsHighestFirst_1 : decode prog_3_method_8_code 1 = .ok (.iconst 1, 1) := by decide +kernel
theorem d_Out_addBitsHighestFirst_2 : decode prog_3_method_8_code 2 = .ok (.isub, 1) := by decide +kernel
theorem d_Out_addBitsHighestFirst_3 : decode prog_3_method_8_code 3 = .ok (.istore_n 3, 1) := by decide +kernel
theorem d_Out_addBitsHighestFirst_4 : decode prog_3_method_8_code 4 = .ok (.iload_n 3, 1) := by decide +kernel
theorem d_Out_addBitsHighestFirst_5 : decode prog_3_method_8_code 5 = .ok (.ifCond .lt 18, 3) := by decide +kernel
theorem d_Out_addBitsHighestFirst_8 : decode prog_3_method_8_code 8 = .ok (.aload_n 0, 1) := by decide +kernel
theorem d_Out_addBitsHighestFirst_9 : decode prog_3_method_8_code 9 = .ok (.iload_n 1, 1) := by decide +kernel
theorem d_Out_addBitsHighestFirst_10 : decode prog_3_method_8_code 10 = .ok (.iload_n 3, 1) := by decide +kernel
theorem d_Out_addBitsHighestFirst_11 : decode prog_3_method_8_code 11 = .ok (.ishr, 1) := by decide +kernel
theorem d_Out_addBitsHighestFirst_12 : decode prog_3_method_8_code 12 = .ok (.iconst 1, 1) := by decide +kernel
theorem d_Out_addBitsHighestFirst_13 : decode prog_3_method_8_code 13 = .ok (.iand, 1) := by decide +kernel
theorem d_Out_addBitsHighestFirst_14 : decode prog_3_method_8_code 14 = .ok (.invokevirtual 27, 3) := by decide +kernel
theorem d_Out_addBitsHighestFirst_17 : decode prog_3_method_8_code 17 = .ok (.iinc 3 (-1), 3) := by decide +kernel
theorem d_Out_addBitsHighestFirst_20 : decode prog_3_method_8_code 20 = .ok (.goto (-16), 3) := by decide +kernel
theorem d_Out_addBitsHighestFirst_23 : decode prog_3_method_8_code 23 = .ok (.return_, 1) := by decide +kernel
abbrev y_Out_addBitsHighestFirst : MethodName := ⟨"PicturePacker$Output", "addBitsHighestFirst", "(II)V"⟩
def wp_Out_addBitsHighestFirst_4 (n : Nat → Nat) (x1 : Int32) (x2 : Int32) (post : Int32 × Int32 × Int32 × (Nat → Int32) → Prop) : Nat → Int32 → Int32 → Int32 → (Nat → Int32) → Int32 → Prop
  | 0 => fun _ _ _ _ _ => False
  | N + 1 => fun Out_size Out_gathered Out_gatheredBits ob y3 => ((y3 : Int32) < 0 → (post (Out_size, Out_gathered, Out_gatheredBits, ob))) ∧ (¬ ((y3 : Int32) < 0) → (wp_Out_addBit n Out_size Out_gathered Out_gatheredBits ob (((x1 : Int32) >>> (y3 &&& 31)) &&& 1) (fun u3 => ∀ z5 : Int32, z5 = (y3 + (-1)) → (wp_Out_addBitsHighestFirst_4 n x1 x2 post N u3.1 u3.2.1 u3.2.2.1 u3.2.2.2 z5))))
def wp_Out_addBitsHighestFirst (n : Nat → Nat) (Out_size : Int32) (Out_gathered : Int32) (Out_gatheredBits : Int32) (ob : Nat → Int32) (x1 : Int32) (x2 : Int32) (post : Int32 × Int32 × Int32 × (Nat → Int32) → Prop) : Prop := ∀ z1 : Int32, z1 = (x2 - 1) → (∃ N6 : Nat, wp_Out_addBitsHighestFirst_4 n x1 x2 post N6 Out_size Out_gathered Out_gatheredBits ob z1)
set_option maxHeartbeats 2000000 in
set_option maxRecDepth 20000 in
theorem s_Out_addBitsHighestFirst_4 {l : Launch} {dC : Nat → ClassId} {dI : Nat → Nat → Nat} {cI : ClassId} {tb : Tbs} {a n : Nat → Nat} {p : Program} {e : Env} {s : State} {m : MethodId} {args : Array Value} {below : List Frame} {meth : Method} {c : Code} {A : Nat → Prop} (E : CallFix p m c prog_3_method_8_code 4 s args TBL "PicturePacker$Output") (hr : meth.sig.returnType = none) (hlk : meth.locks = false) {x1 : Int32} {x2 : Int32} {post : Int32 × Int32 × Int32 × (Nat → Int32) → Prop} : ∀ (N : Nat) (Out_size : Int32) (Out_gathered : Int32) (Out_gatheredBits : Int32) (ob : Nat → Int32) (y3 : Int32) (H : Heap) (locs : List Loc) (ls : Array Slot), Wl classes dC dI cI tb A s H locs [e_Out a Out_size Out_gathered Out_gatheredBits, e_ar a n cI 11 ob] → lv_has ls 4 [(0, .ref (a 3)), (1, .int x1), (3, .int y3)] → wp_Out_addBitsHighestFirst_4 n x1 x2 post N Out_size Out_gathered Out_gatheredBits ob y3 → W p l e ({ frames := 2, cells := 0, slots := 0, locals := 42 }) s m args below meth c H locs 0 0 (MQ below (va_Qv post (fun u => End0 classes dC dI cI A [e_Out a u.1 u.2.1 u.2.2.1, e_ar a n cI 11 u.2.2.2]) A) args s 0 0 A) (F0 m 4 ls []) := by
  obtain ⟨hx, hb, hml, hown, hts⟩ := id E
  intro N
  induction N with
  | zero =>
    intro _ _ _ _ _ H locs ls hw hl h
    exact absurd h id
  | succ N ih =>
    intro Out_size Out_gathered Out_gatheredBits ob y3 H locs ls hw hl h
    unfold wp_Out_addBitsHighestFirst_4 at h
    refine lv_iload_n hx hb d_Out_addBitsHighestFirst_4 rfl (lv_at hl 2 rfl) ?_
    refine lv_if_lt (tgt := 23) hx hb d_Out_addBitsHighestFirst_5 (by decide) (fun c2 => ?_) (fun c2 => ?_)
    · have h := h.1 c2
      exact retV (out := fun u => [e_Out a u.1 u.2.1 u.2.2.1, e_ar a n cI 11 u.2.2.2]) (u := (Out_size, Out_gathered, Out_gatheredBits, ob)) E hr hlk hw h d_Out_addBitsHighestFirst_23
    · have h := h.2 c2
      refine lv_aload_n hx hb d_Out_addBitsHighestFirst_8 rfl (lv_at hl 0 rfl) ?_
      refine lv_iload_n hx hb d_Out_addBitsHighestFirst_9 rfl (lv_at hl 1 rfl) ?_
      refine lv_iload_n hx hb d_Out_addBitsHighestFirst_10 rfl (lv_at hl 2 rfl) ?_
      refine lv_ishr hx hb d_Out_addBitsHighestFirst_11 ?_
      refine lv_iconst (v := 1) hx hb d_Out_addBitsHighestFirst_12 (by decide) ?_
      refine lv_iand hx hb d_Out_addBitsHighestFirst_13 ?_
      refine kVv (y := y_Out_addBit) (ws' := fun u3 => [e_Out a u3.1 u3.2.1 u3.2.2.1, e_ar a n cI 11 u3.2.2.2]) (wr := []) (As := [.int (((x1 : Int32) >>> (y3 &&& 31)) &&& 1)]) (rest := []) E hw (c_Out_addBit (l := l) (dC := dC) (dI := dI) (cI := cI) (tb := tb) (a := a) (n := n) (Out_size := Out_size) (Out_gathered := Out_gathered) (Out_gatheredBits := Out_gatheredBits) (ob := ob) (x1 := ((x1 : Int32) >>> (y3 &&& 31)) &&& 1) h) tw347 tw349 tw5 tw38 tw350 1 (by decide) ⟨Nat.le_of_ble_eq_true rfl, Nat.le_of_ble_eq_true rfl⟩ ⟨Nat.le_of_ble_eq_true rfl, Nat.le_of_ble_eq_true rfl⟩ ⟨rfl, rfl⟩ rfl rfl 0 rfl [0, 1] [] [0, 1] rfl rfl rfl rfl (by decide) rfl (fun _ => rfl) hl.1 rfl rfl (Nat.le_of_ble_eq_true rfl) d_Out_addBitsHighestFirst_14 (fun u3 H locs h hw => ?_)
      obtain ⟨z5, ez5⟩ : ∃ z : Int32, z = y3 + (-1) := ⟨_, rfl⟩
      have h := h z5 ez5
      refine lv_iinc (v := z5) (lv' := [(3, .int z5), (0, .ref (a 3)), (1, .int x1)]) hx hb d_Out_addBitsHighestFirst_17 hl (k := 2) rfl (by rw [ez5]; exact congrArg (y3 + ·) (by decide)) (by decide) rfl (fun ls hl => ?_)
      refine lv_goto (tgt := 4) hx hb d_Out_addBitsHighestFirst_20 (by decide) ?_
      exact ih u3.1 u3.2.1 u3.2.2.1 u3.2.2.2 z5 _ _ ls hw (lv_sub hl [1, 2, 0] rfl) h
set_option maxHeartbeats 2000000 in
set_option maxRecDepth 20000 in
theorem c_Out_addBitsHighestFirst {l : Launch} {dC : Nat → ClassId} {dI : Nat → Nat → Nat} {cI : ClassId} {tb : Tbs} {a n : Nat → Nat} {Out_size : Int32} {Out_gathered : Int32} {Out_gatheredBits : Int32} {ob : Nat → Int32} {x1 : Int32} {x2 : Int32} {post : Int32 × Int32 × Int32 × (Nat → Int32) → Prop} (h : wp_Out_addBitsHighestFirst n Out_size Out_gathered Out_gatheredBits ob x1 x2 post) : CtV classes dC dI cI tb l y_Out_addBitsHighestFirst prog_3_method_8_code 4 ({ frames := 2, cells := 0, slots := 0, locals := 42 }) [.ref (a 3), .int x1, .int x2] [e_Out a Out_size Out_gathered Out_gatheredBits, e_ar a n cI 11 ob] (Int32 × Int32 × Int32 × (Nat → Int32)) (fun u => [e_Out a u.1 u.2.1 u.2.2.1, e_ar a n cI 11 u.2.2.2]) post := by
  refine startV (by decide) (Nat.le_of_ble_eq_true rfl) ?_
  intro p e s m below meth c ls E hr hlk hnm hl hw
  have hl : lv_has ls 4 [(0, .ref (a 3)), (1, .int x1), (2, .int x2)] := hl
  generalize va_A [e_Out a Out_size Out_gathered Out_gatheredBits, e_ar a n cI 11 ob] s.heap.size = A at hw ⊢
  obtain ⟨hx, hb, hml, hown, hts⟩ := id E
  unfold wp_Out_addBitsHighestFirst at h
  refine lv_iload_n hx hb d_Out_addBitsHighestFirst_0 rfl (lv_at hl 2 rfl) ?_
  refine lv_iconst (v := 1) hx hb d_Out_addBitsHighestFirst_1 (by decide) ?_
  refine lv_isub hx hb d_Out_addBitsHighestFirst_2 ?_
  refine lv_topi (fun z1 ez1 => ?_)
  have h := h z1 ez1
  refine lv_istore_n (lv' := [(3, .int z1), (0, .ref (a 3)), (1, .int x1), (2, .int x2)]) hx hb d_Out_addBitsHighestFirst_3 rfl hl (by decide) rfl (fun ls hl => ?_)
  obtain ⟨N6, h⟩ := h
  exact s_Out_addBitsHighestFirst_4 (a := a) (n := n) (tb := tb) E hr hlk  N6 Out_size Out_gathered Out_gatheredBits ob z1 _ _ ls hw (lv_sub hl [1, 2, 0] rfl) h
-- PicturePacker$Output.addBitsLowestFirst(II)V
theorem d_Out_addBitsLowestFirst_0 : decode prog_3_method_9_code 0 = .ok (.iconst 0, 1) := by decide +kernel
theorem d_Out_addBitsLowestFirst_1 : decode prog_3_method_9_code 1 = .ok (.istore_n 3, 1) := by decide +kernel
theorem d_Out_addBitsLowestFirst_2 : decode prog_3_method_9_code 2 = .ok (.iload_n 3, 1) := by decide +kernel
theorem d_Out_addBitsLowestFirst_3 : decode prog_3_method_9_code 3 = .ok (.iload_n 2, 1) := by decide +kernel
theorem d_Out_addBitsLowestFirst_4 : decode prog_3_method_9_code 4 = .ok (.if_icmp .ge 18, 3) := by decide +kernel
theorem d_Out_addBitsLowestFirst_7 : decode prog_3_method_9_code 7 = .ok (.aload_n 0, 1) := by decide +kernel
theorem d_Out_addBitsLowestFirst_8 : decode prog_3_method_9_code 8 = .ok (.iload_n 1, 1) := by decide +kernel
theorem d_Out_addBitsLowestFirst_9 : decode prog_3_method_9_code 9 = .ok (.iload_n 3, 1) := by decide +kernel
theorem d_Out_addBitsLowestFirst_10 : decode prog_3_method_9_code 10 = .ok (.ishr, 1) := by decide +kernel
theorem d_Out_addBitsLowestFirst_11 : decode prog_3_method_9_code 11 = .ok (.iconst 1, 1) := by decide +kernel
theorem d_Out_addBitsLowestFirst_12 : decode prog_3_method_9_code 12 = .ok (.iand, 1) := by decide +kernel
theorem d_Out_addBitsLowestFirst_13 : decode prog_3_method_9_code 13 = .ok (.invokevirtual 27, 3) := by decide +kernel
theorem d_Out_addBitsLowestFirst_16 : decode prog_3_method_9_code 16 = .ok (.iinc 3 1, 3) := by decide +kernel
theorem d_Out_addBitsLowestFirst_19 : decode prog_3_method_9_code 19 = .ok (.goto (-17), 3) := by decide +kernel
theorem d_Out_addBitsLowestFirst_22 : decode prog_3_method_9_code 22 = .ok (.return_, 1) := by decide +kernel
abbrev y_Out_addBitsLowestFirst : MethodName := ⟨"PicturePacker$Output", "addBitsLowestFirst", "(II)V"⟩
def wp_Out_addBitsLowestFirst_2 (n : Nat → Nat) (x1 : Int32) (x2 : Int32) (post : Int32 × Int32 × Int32 × (Nat → Int32) → Prop) : Nat → Int32 → Int32 → Int32 → (Nat → Int32) → Int32 → Prop
  | 0 => fun _ _ _ _ _ => False
  | N + 1 => fun Out_size Out_gathered Out_gatheredBits ob y3 => ((x2 : Int32) ≤ y3 → (post (Out_size, Out_gathered, Out_gatheredBits, ob))) ∧ (¬ ((x2 : Int32) ≤ y3) → (wp_Out_addBit n Out_size Out_gathered Out_gatheredBits ob (((x1 : Int32) >>> (y3 &&& 31)) &&& 1) (fun u2 => ∀ z4 : Int32, z4 = (y3 + 1) → (wp_Out_addBitsLowestFirst_2 n x1 x2 post N u2.1 u2.2.1 u2.2.2.1 u2.2.2.2 z4))))
def wp_Out_addBitsLowestFirst (n : Nat → Nat) (Out_size : Int32) (Out_gathered : Int32) (Out_gatheredBits : Int32) (ob : Nat → Int32) (x1 : Int32) (x2 : Int32) (post : Int32 × Int32 × Int32 × (Nat → Int32) → Prop) : Prop := ∃ N5 : Nat, wp_Out_addBitsLowestFirst_2 n x1 x2 post N5 Out_size Out_gathered Out_gatheredBits ob 0
set_option maxHeartbeats 2000000 in
set_option maxRecDepth 20000 in
theorem s_Out_addBitsLowestFirst_2 {l : Launch} {dC : Nat → ClassId} {dI : Nat → Nat → Nat} {cI : ClassId} {tb : Tbs} {a n : Nat → Nat} {p : Program} {e : Env} {s : State} {m : MethodId} {args : Array Value} {below : List Frame} {meth : Method} {c : Code} {A : Nat → Prop} (E : CallFix p m c prog_3_method_9_code 4 s args TBL "PicturePacker$Output") (hr : meth.sig.returnType = none) (hlk : meth.locks = false) {x1 : Int32} {x2 : Int32} {post : Int32 × Int32 × Int32 × (Nat → Int32) → Prop} : ∀ (N : Nat) (Out_size : Int32) (Out_gathered : Int32) (Out_gatheredBits : Int32) (ob : Nat → Int32) (y3 : Int32) (H : Heap) (locs : List Loc) (ls : Array Slot), Wl classes dC dI cI tb A s H locs [e_Out a Out_size Out_gathered Out_gatheredBits, e_ar a n cI 11 ob] → lv_has ls 4 [(0, .ref (a 3)), (1, .int x1), (2, .int x2), (3, .int y3)] → wp_Out_addBitsLowestFirst_2 n x1 x2 post N Out_size Out_gathered Out_gatheredBits ob y3 → W p l e ({ frames := 2, cells := 0, slots := 0, locals := 42 }) s m args below meth c H locs 0 0 (MQ below (va_Qv post (fun u => End0 classes dC dI cI A [e_Out a u.1 u.2.1 u.2.2.1, e_ar a n cI 11 u.2.2.2]) A) args s 0 0 A) (F0 m 2 ls []) := by
  obtain ⟨hx, hb, hml, hown, hts⟩ := id E
  intro N
  induction N with
  | zero =>
    intro _ _ _ _ _ H locs ls hw hl h
    exact absurd h id
  | succ N ih =>
    intro Out_size Out_gathered Out_gatheredBits ob y3 H locs ls hw hl h
    unfold wp_Out_addBitsLowestFirst_2 at h
    refine lv_iload_n hx hb d_Out_addBitsLowestFirst_2 rfl (lv_at hl 3 rfl) ?_
    refine lv_iload_n hx hb d_Out_addBitsLowestFirst_3 rfl (lv_at hl 2 rfl) ?_
    refine lv_icmp_ge (tgt := 22) hx hb d_Out_addBitsLowestFirst_4 (by decide) (fun c1 => ?_) (fun c1 => ?_)
    · have h := h.1 c1
      exact retV (out := fun u => [e_Out a u.1 u.2.1 u.2.2.1, e_ar a n cI 11 u.2.2.2]) (u := (Out_size, Out_gathered, Out_gatheredBits, ob)) E hr hlk hw h d_Out_addBitsLowestFirst_22
    · have h := h.2 c1
      refine lv_aload_n hx hb d_Out_addBitsLowestFirst_7 rfl (lv_at hl 0 rfl) ?_
      refine lv_iload_n hx hb d_Out_addBitsLowestFirst_8 rfl (lv_at hl 1 rfl) ?_
      refine lv_iload_n hx hb d_Out_addBitsLowestFirst_9 rfl (lv_at hl 3 rfl) ?_
      refine lv_ishr hx hb d_Out_addBitsLowestFirst_10 ?_
      refine lv_iconst (v := 1) hx hb d_Out_addBitsLowestFirst_11 (by decide) ?_
      refine lv_iand hx hb d_Out_addBitsLowestFirst_12 ?_
      refine kVv (y := y_Out_addBit) (ws' := fun u2 => [e_Out a u2.1 u2.2.1 u2.2.2.1, e_ar a n cI 11 u2.2.2.2]) (wr := []) (As := [.int (((x1 : Int32) >>> (y3 &&& 31)) &&& 1)]) (rest := []) E hw (c_Out_addBit (l := l) (dC := dC) (dI := dI) (cI := cI) (tb := tb) (a := a) (n := n) (Out_size := Out_size) (Out_gathered := Out_gathered) (Out_gatheredBits := Out_gatheredBits) (ob := ob) (x1 := ((x1 : Int32) >>> (y3 &&& 31)) &&& 1) h) tw347 tw349 tw5 tw38 tw350 1 (by decide) ⟨Nat.le_of_ble_eq_true rfl, Nat.le_of_ble_eq_true rfl⟩ ⟨Nat.le_of_ble_eq_true rfl, Nat.le_of_ble_eq_true rfl⟩ ⟨rfl, rfl⟩ rfl rfl 0 rfl [0, 1] [] [0, 1] rfl rfl rfl rfl (by decide) rfl (fun _ => rfl) hl.1 rfl rfl (Nat.le_of_ble_eq_true rfl) d_Out_addBitsLowestFirst_13 (fun u2 H locs h hw => ?_)
      obtain ⟨z4, ez4⟩ : ∃ z : Int32, z = y3 + 1 := ⟨_, rfl⟩
      have h := h z4 ez4
      refine lv_iinc (v := z4) (lv' := [(3, .int z4), (0, .ref (a 3)), (1, .int x1), (2, .int x2)]) hx hb d_Out_addBitsLowestFirst_16 hl (k := 3) rfl (by rw [ez4]; exact congrArg (y3 + ·) (by decide)) (by decide) rfl (fun ls hl => ?_)
      refine lv_goto (tgt := 2) hx hb d_Out_addBitsLowestFirst_19 (by decide) ?_
      exact ih u2.1 u2.2.1 u2.2.2.1 u2.2.2.2 z4 _ _ ls hw (lv_sub hl [1, 2, 3, 0] rfl) h
set_option maxHeartbeats 2000000 in
set_option maxRecDepth 20000 in
theorem c_Out_addBitsLowestFirst {l : Launch} {dC : Nat → ClassId} {dI : Nat → Nat → Nat} {cI : ClassId} {tb : Tbs} {a n : Nat → Nat} {Out_size : Int32} {Out_gathered : Int32} {Out_gatheredBits : Int32} {ob : Nat → Int32} {x1 : Int32} {x2 : Int32} {post : Int32 × Int32 × Int32 × (Nat → Int32) → Prop} (h : wp_Out_addBitsLowestFirst n Out_size Out_gathered Out_gatheredBits ob x1 x2 post) : CtV classes dC dI cI tb l y_Out_addBitsLowestFirst prog_3_method_9_code 4 ({ frames := 2, cells := 0, slots := 0, locals := 42 }) [.ref (a 3), .int x1, .int x2] [e_Out a Out_size Out_gathered Out_gatheredBits, e_ar a n cI 11 ob] (Int32 × Int32 × Int32 × (Nat → Int32)) (fun u => [e_Out a u.1 u.2.1 u.2.2.1, e_ar a n cI 11 u.2.2.2]) post := by
  refine startV (by decide) (Nat.le_of_ble_eq_true rfl) ?_
  intro p e s m below meth c ls E hr hlk hnm hl hw
  have hl : lv_has ls 4 [(0, .ref (a 3)), (1, .int x1), (2, .int x2)] := hl
  generalize va_A [e_Out a Out_size Out_gathered Out_gatheredBits, e_ar a n cI 11 ob] s.heap.size = A at hw ⊢
  obtain ⟨hx, hb, hml, hown, hts⟩ := id E
  unfold wp_Out_addBitsLowestFirst at h
  refine lv_iconst (v := 0) hx hb d_Out_addBitsLowestFirst_0 (by decide) ?_
  refine lv_istore_n (lv' := [(3, .int 0), (0, .ref (a 3)), (1, .int x1), (2, .int x2)]) hx hb d_Out_addBitsLowestFirst_1 rfl hl (by decide) rfl (fun ls hl => ?_)
  obtain ⟨N5, h⟩ := h
  exact s_Out_addBitsLowestFirst_2 (a := a) (n := n) (tb := tb) E hr hlk  N5 Out_size Out_gathered Out_gatheredBits ob 0 _ _ ls hw (lv_sub hl [1, 2, 3, 0] rfl) h
-- PicturePacker$Output.endByte()V
theorem d_Out_endByte_0 : decode prog_3_method_11_code 0 = .ok (.aload_n 0, 1) := by decide +kernel
theorem d_Out_endByte_1 : decode prog_3_method_11_code 1 = .ok (.getfield 20, 3) := by decide +kernel
theorem d_Out_endByte_4 : decode prog_3_method_11_code 4 = .ok (.ifCond .le 15, 3) := by decide +kernel
theorem d_Out_endByte_7 : decode prog_3_method_11_code 7 = .ok (.aload_n 0, 1) := by decide +kernel
theorem d_Out_endByte_8 : decode prog_3_method_11_code 8 = .ok (.iconst 0, 1) := by decide +kernel
theorem d_Out_endByte_9 : decode prog_3_method_11_code 9 = .ok (.bipush 8, 2) := by decide +kernel
theorem d_Out_endByte_11 : decode prog_3_method_11_code 11 = .ok (.aload_n 0, 1) := by decide +kernel
theorem d_Out_endByte_12 : decode prog_3_method_11_code 12 = .ok (.getfield 20, 3) := by decide +kernel
theorem d_Out_endByte_15 : decode prog_3_method_11_code 15 = .ok (.isub, 1) := by decide +kernel
theorem d_Out_endByte_16 : decode prog_3_method_11_code 16 = .ok (.invokevirtual 30, 3) := by decide +kernel
theorem d_Out_endByte_19 : decode prog_3_method_11_code 19 = .ok (.return_, 1) := by decide +kernel
abbrev y_Out_endByte : MethodName := ⟨"PicturePacker$Output", "endByte", "()V"⟩
def wp_Out_endByte (n : Nat → Nat) (Out_size : Int32) (Out_gathered : Int32) (Out_gatheredBits : Int32) (ob : Nat → Int32) (post : Int32 × Int32 × Int32 × (Nat → Int32) → Prop) : Prop := ((Out_gatheredBits : Int32) ≤ 0 → (post (Out_size, Out_gathered, Out_gatheredBits, ob))) ∧ (¬ ((Out_gatheredBits : Int32) ≤ 0) → (wp_Out_addBitsLowestFirst n Out_size Out_gathered Out_gatheredBits ob 0 (8 - Out_gatheredBits) (fun u2 => post (u2.1, u2.2.1, u2.2.2.1, u2.2.2.2))))
set_option maxHeartbeats 2000000 in
set_option maxRecDepth 20000 in
theorem c_Out_endByte {l : Launch} {dC : Nat → ClassId} {dI : Nat → Nat → Nat} {cI : ClassId} {tb : Tbs} {a n : Nat → Nat} {Out_size : Int32} {Out_gathered : Int32} {Out_gatheredBits : Int32} {ob : Nat → Int32} {post : Int32 × Int32 × Int32 × (Nat → Int32) → Prop} (h : wp_Out_endByte n Out_size Out_gathered Out_gatheredBits ob post) : CtV classes dC dI cI tb l y_Out_endByte prog_3_method_11_code 1 ({ frames := 3, cells := 0, slots := 0, locals := 65 }) [.ref (a 3)] [e_Out a Out_size Out_gathered Out_gatheredBits, e_ar a n cI 11 ob] (Int32 × Int32 × Int32 × (Nat → Int32)) (fun u => [e_Out a u.1 u.2.1 u.2.2.1, e_ar a n cI 11 u.2.2.2]) post := by
  refine startV (by decide) (Nat.le_of_ble_eq_true rfl) ?_
  intro p e s m below meth c ls E hr hlk hnm hl hw
  have hl : lv_has ls 1 [(0, .ref (a 3))] := hl
  generalize va_A [e_Out a Out_size Out_gathered Out_gatheredBits, e_ar a n cI 11 ob] s.heap.size = A at hw ⊢
  obtain ⟨hx, hb, hml, hown, hts⟩ := id E
  unfold wp_Out_endByte at h
  refine lv_aload_n hx hb d_Out_endByte_0 rfl (lv_at hl 0 rfl) ?_
  refine kget (v := .int Out_gatheredBits) (T := F_Out) E hw in_Out rfl 0 3 rfl (by decide) tw124 rfl d_Out_endByte_1 ?_
  refine lv_if_le (tgt := 19) hx hb d_Out_endByte_4 (by decide) (fun c1 => ?_) (fun c1 => ?_)
  · have h := h.1 c1
    exact retV (out := fun u => [e_Out a u.1 u.2.1 u.2.2.1, e_ar a n cI 11 u.2.2.2]) (u := (Out_size, Out_gathered, Out_gatheredBits, ob)) E hr hlk hw h d_Out_endByte_19
  · have h := h.2 c1
    refine lv_aload_n hx hb d_Out_endByte_7 rfl (lv_at hl 0 rfl) ?_
    refine lv_iconst (v := 0) hx hb d_Out_endByte_8 (by decide) ?_
    refine lv_bipush (v := 8) hx hb d_Out_endByte_9 (by decide) ?_
    refine lv_aload_n hx hb d_Out_endByte_11 rfl (lv_at hl 0 rfl) ?_
    refine kget (v := .int Out_gatheredBits) (T := F_Out) E hw in_Out rfl 0 3 rfl (by decide) tw124 rfl d_Out_endByte_12 ?_
    refine lv_isub hx hb d_Out_endByte_15 ?_
    refine kVv (y := y_Out_addBitsLowestFirst) (ws' := fun u2 => [e_Out a u2.1 u2.2.1 u2.2.2.1, e_ar a n cI 11 u2.2.2.2]) (wr := []) (As := [.int 0, .int (8 - Out_gatheredBits)]) (rest := []) E hw (c_Out_addBitsLowestFirst (l := l) (dC := dC) (dI := dI) (cI := cI) (tb := tb) (a := a) (n := n) (Out_size := Out_size) (Out_gathered := Out_gathered) (Out_gatheredBits := Out_gatheredBits) (ob := ob) (x1 := 0) (x2 := 8 - Out_gatheredBits) h) tw400 tw344 tw345 tw38 tw346 2 (by decide) ⟨Nat.le_of_ble_eq_true rfl, Nat.le_of_ble_eq_true rfl⟩ ⟨Nat.le_of_ble_eq_true rfl, Nat.le_of_ble_eq_true rfl⟩ ⟨rfl, rfl⟩ rfl rfl 0 rfl [0, 1] [] [0, 1] rfl rfl rfl rfl (by decide) rfl (fun _ => rfl) hl.1 rfl rfl (Nat.le_of_ble_eq_true rfl) d_Out_endByte_16 (fun u2 H locs h hw => ?_)
    exact retV (out := fun u => [e_Out a u.1 u.2.1 u.2.2.1, e_ar a n cI 11 u.2.2.2]) (u := (u2.1, u2.2.1, u2.2.2.1, u2.2.2.2)) E hr hlk hw h d_Out_endByte_19
-- PicturePacker$Output.restart()V
theorem d_Out_restart_0 : decode prog_3_method_3_code 0 = .ok (.aload_n 0, 1) := by decide +kernel
theorem d_Out_restart_1 : decode prog_3_method_3_code 1 = .ok (.iconst 0, 1) := by decide +kernel
theorem d_Out_restart_2 : decode prog_3_method_3_code 2 = .ok (.putfield 13, 3) := by decide +kernel
theorem d_Out_restart_5 : decode prog_3_method_3_code 5 = .ok (.aload_n 0, 1) := by decide +kernel
theorem d_Out_restart_6 : decode prog_3_method_3_code 6 = .ok (.iconst 0, 1) := by decide +kernel
theorem d_Out_restart_7 : decode prog_3_method_3_code 7 = .ok (.putfield 17, 3) := by decide +kernel
theorem d_Out_restart_10 : decode prog_3_method_3_code 10 = .ok (.aload_n 0, 1) := by decide +kernel
theorem d_Out_restart_11 : decode prog_3_method_3_code 11 = .ok (.iconst 0, 1) := by decide +kernel
theorem d_Out_restart_12 : decode prog_3_method_3_code 12 = .ok (.putfield 20, 3) := by decide +kernel
theorem d_Out_restart_15 : decode prog_3_method_3_code 15 = .ok (.return_, 1) := by decide +kernel
abbrev y_Out_restart : MethodName := ⟨"PicturePacker$Output", "restart", "()V"⟩
def wp_Out_restart (n : Nat → Nat) (Out_size : Int32) (Out_gathered : Int32) (Out_gatheredBits : Int32) (post : Int32 × Int32 × Int32 → Prop) : Prop := post (0, 0, 0)
set_option maxHeartbeats 2000000 in
set_option maxRecDepth 20000 in
theorem c_Out_restart {l : Launch} {dC : Nat → ClassId} {dI : Nat → Nat → Nat} {cI : ClassId} {tb : Tbs} {a n : Nat → Nat} {Out_size : Int32} {Out_gathered : Int32} {Out_gatheredBits : Int32} {post : Int32 × Int32 × Int32 → Prop} (h : wp_Out_restart n Out_size Out_gathered Out_gatheredBits post) : CtV classes dC dI cI tb l y_Out_restart prog_3_method_3_code 1 ({ frames := 0, cells := 0, slots := 0, locals := 0 }) [.ref (a 3)] [e_Out a Out_size Out_gathered Out_gatheredBits] (Int32 × Int32 × Int32) (fun u => [e_Out a u.1 u.2.1 u.2.2]) post := by
  refine startV (by decide) (Nat.le_of_ble_eq_true rfl) ?_
  intro p e s m below meth c ls E hr hlk hnm hl hw
  have hl : lv_has ls 1 [(0, .ref (a 3))] := hl
  generalize va_A [e_Out a Out_size Out_gathered Out_gatheredBits] s.heap.size = A at hw ⊢
  obtain ⟨hx, hb, hml, hown, hts⟩ := id E
  unfold wp_Out_restart at h
  refine lv_aload_n hx hb d_Out_restart_0 rfl (lv_at hl 0 rfl) ?_
  refine lv_iconst (v := 0) hx hb d_Out_restart_1 (by decide) ?_
  refine kput (v := .int 0) (ty := .int) (T := F_Out) (ws' := [e_Out a 0 Out_gathered Out_gatheredBits]) E hw in_Out t_Out t_Out_ok n_Out rfl 0 1 rfl (by decide) tw120 rfl rfl rfl rfl (Nat.le_of_ble_eq_true rfl) rfl d_Out_restart_2 (fun H locs hw => ?_)
  refine lv_aload_n hx hb d_Out_restart_5 rfl (lv_at hl 0 rfl) ?_
  refine lv_iconst (v := 0) hx hb d_Out_restart_6 (by decide) ?_
  refine kput (v := .int 0) (ty := .int) (T := F_Out) (ws' := [e_Out a 0 0 Out_gatheredBits]) E hw in_Out t_Out t_Out_ok n_Out rfl 0 2 rfl (by decide) tw123 rfl rfl rfl rfl (Nat.le_of_ble_eq_true rfl) rfl d_Out_restart_7 (fun H locs hw => ?_)
  refine lv_aload_n hx hb d_Out_restart_10 rfl (lv_at hl 0 rfl) ?_
  refine lv_iconst (v := 0) hx hb d_Out_restart_11 (by decide) ?_
  refine kput (v := .int 0) (ty := .int) (T := F_Out) (ws' := [e_Out a 0 0 0]) E hw in_Out t_Out t_Out_ok n_Out rfl 0 3 rfl (by decide) tw124 rfl rfl rfl rfl (Nat.le_of_ble_eq_true rfl) rfl d_Out_restart_12 (fun H locs hw => ?_)
  exact retV (out := fun u => [e_Out a u.1 u.2.1 u.2.2]) (u := (0, 0, 0)) E hr hlk hw h d_Out_restart_15
-- PicturePacker$Output.addAll([I)V
theorem d_Out_addAll_0 : decode prog_3_method_5_code 0 = .ok (.iconst 0, 1) := by decide +kernel
theorem d_Out_addAll_1 : decode prog_3_method_5_code 1 = .ok (.istore_n 2, 1) := by decide +kernel
theorem d_Out_addAll_2 : decode prog_3_method_5_code 2 = .ok (.iload_n 2, 1) := by decide +kernel
theorem d_Out_addAll_3 : decode prog_3_method_5_code 3 = .ok (.aload_n 1, 1) := by decide +kernel
theorem d_Out_addAll_4 : decode prog_3_method_5_code 4 = .ok (.arraylength, 1) := by decide +kernel
theorem d_Out_addAll_5 : decode prog_3_method_5_code 5 = .ok (.if_icmp .ge 16, 3) := by decide +kernel
theorem d_Out_addAll_8 : decode prog_3_method_5_code 8 = .ok (.aload_n 0, 1) := by decide +kernel
theorem d_Out_addAll_9 : decode prog_3_method_5_code 9 = .ok (.aload_n 1, 1) := by decide +kernel
theorem d_Out_addAll_10 : decode prog_3_method_5_code 10 = .ok (.iload_n 2, 1) := by decide +kernel
theorem d_Out_addAll_11 : decode prog_3_method_5_code 11 = .ok (.iaload, 1) := by decide +kernel
theorem d_Out_addAll_12 : decode prog_3_method_5_code 12 = .ok (.invokevirtual 23, 3) := by decide +kernel
theorem d_Out_addAll_15 : decode prog_3_method_5_code 15 = .ok (.iinc 2 1, 3) := by decide +kernel
theorem d_Out_addAll_18 : decode prog_3_method_5_code 18 = .ok (.goto (-16), 3) := by decide +kernel
theorem d_Out_addAll_21 : decode prog_3_method_5_code 21 = .ok (.return_, 1) := by decide +kernel
abbrev y_Out_addAll : MethodName := ⟨"PicturePacker$Output", "addAll", "([I)V"⟩
def wp_Out_addAll_2 (n : Nat → Nat) (tb : Tbs) (K : Nat) (post : Int32 × (Nat → Int32) → Prop) : Nat → Int32 → (Nat → Int32) → Int32 → Prop
  | 0 => fun _ _ _ => False
  | N + 1 => fun Out_size ob y2 => ((nI (tb K).2.1 : Int32) ≤ y2 → (post (Out_size, ob))) ∧ (¬ ((nI (tb K).2.1 : Int32) ≤ y2) → (vp_in y2 ((tb K).2.1) ∧ (wp_Out_addByte n Out_size ob ((tb K).2.2 (y2 : Int32).toNatClampNeg) (fun u3 => ∀ z5 : Int32, z5 = (y2 + 1) → (wp_Out_addAll_2 n tb K post N u3.1 u3.2 z5)))))
def wp_Out_addAll (n : Nat → Nat) (tb : Tbs) (K : Nat) (Out_size : Int32) (ob : Nat → Int32) (post : Int32 × (Nat → Int32) → Prop) : Prop := ∃ N6 : Nat, wp_Out_addAll_2 n tb K post N6 Out_size ob 0
set_option maxHeartbeats 2000000 in
set_option maxRecDepth 20000 in
theorem s_Out_addAll_2 {l : Launch} {dC : Nat → ClassId} {dI : Nat → Nat → Nat} {cI : ClassId} {tb : Tbs} {a n : Nat → Nat} {p : Program} {e : Env} {s : State} {m : MethodId} {args : Array Value} {below : List Frame} {meth : Method} {c : Code} {A : Nat → Prop} (E : CallFix p m c prog_3_method_5_code 3 s args TBL "PicturePacker$Output") (hr : meth.sig.returnType = none) (hlk : meth.locks = false) {K : Nat} (hK2 : K < 4) {Out_gathered : Int32} {Out_gatheredBits : Int32} {post : Int32 × (Nat → Int32) → Prop} : ∀ (N : Nat) (Out_size : Int32) (ob : Nat → Int32) (y2 : Int32) (H : Heap) (locs : List Loc) (ls : Array Slot), Wl classes dC dI cI tb A s H locs [e_Out a Out_size Out_gathered Out_gatheredBits, e_ar a n cI 11 ob] → lv_has ls 3 [(0, .ref (a 3)), (1, .ref (tb K).1), (2, .int y2)] → wp_Out_addAll_2 n tb K post N Out_size ob y2 → W p l e ({ frames := 1, cells := 0, slots := 0, locals := 21 }) s m args below meth c H locs 0 0 (MQ below (va_Qv post (fun u => End0 classes dC dI cI A [e_Out a u.1 Out_gathered Out_gatheredBits, e_ar a n cI 11 u.2]) A) args s 0 0 A) (F0 m 2 ls []) := by
  obtain ⟨hx, hb, hml, hown, hts⟩ := id E
  intro N
  induction N with
  | zero =>
    intro _ _ _ H locs ls hw hl h
    exact absurd h id
  | succ N ih =>
    intro Out_size ob y2 H locs ls hw hl h
    unfold wp_Out_addAll_2 at h
    refine lv_iload_n hx hb d_Out_addAll_2 rfl (lv_at hl 2 rfl) ?_
    refine lv_aload_n hx hb d_Out_addAll_3 rfl (lv_at hl 1 rfl) ?_
    refine ktlen (K := K) E hw hK2 d_Out_addAll_4 ?_
    refine lv_icmp_ge (tgt := 21) hx hb d_Out_addAll_5 (by decide) (fun c1 => ?_) (fun c1 => ?_)
    · have h := h.1 c1
      exact retV (out := fun u => [e_Out a u.1 Out_gathered Out_gatheredBits, e_ar a n cI 11 u.2]) (u := (Out_size, ob)) E hr hlk hw h d_Out_addAll_21
    · have h := h.2 c1
      refine lv_aload_n hx hb d_Out_addAll_8 rfl (lv_at hl 0 rfl) ?_
      refine lv_aload_n hx hb d_Out_addAll_9 rfl (lv_at hl 1 rfl) ?_
      refine lv_iload_n hx hb d_Out_addAll_10 rfl (lv_at hl 2 rfl) ?_
      obtain ⟨b2, h⟩ := h
      refine ktld (K := K) E hw hK2 b2 d_Out_addAll_11 ?_
      refine kVv (y := y_Out_addByte) (ws' := fun u3 => [e_Out a u3.1 Out_gathered Out_gatheredBits, e_ar a n cI 11 u3.2]) (wr := []) (As := [.int ((tb K).2.2 (y2 : Int32).toNatClampNeg)]) (rest := []) E hw (c_Out_addByte (l := l) (dC := dC) (dI := dI) (cI := cI) (tb := tb) (a := a) (n := n) (Out_size := Out_size) (Out_gathered := Out_gathered) (Out_gatheredBits := Out_gatheredBits) (ob := ob) (x1 := (tb K).2.2 (y2 : Int32).toNatClampNeg) h) tw298 tw299 tw300 tw38 tw301 1 (by decide) ⟨Nat.le_of_ble_eq_true rfl, Nat.le_of_ble_eq_true rfl⟩ ⟨Nat.le_of_ble_eq_true rfl, Nat.le_of_ble_eq_true rfl⟩ ⟨rfl, rfl⟩ rfl rfl 0 rfl [0, 1] [] [0, 1] rfl rfl rfl rfl (by decide) rfl (fun _ => rfl) hl.1 rfl rfl (Nat.le_of_ble_eq_true rfl) d_Out_addAll_12 (fun u3 H locs h hw => ?_)
      obtain ⟨z5, ez5⟩ : ∃ z : Int32, z = y2 + 1 := ⟨_, rfl⟩
      have h := h z5 ez5
      refine lv_iinc (v := z5) (lv' := [(2, .int z5), (0, .ref (a 3)), (1, .ref (tb K).1)]) hx hb d_Out_addAll_15 hl (k := 2) rfl (by rw [ez5]; exact congrArg (y2 + ·) (by decide)) (by decide) rfl (fun ls hl => ?_)
      refine lv_goto (tgt := 2) hx hb d_Out_addAll_18 (by decide) ?_
      exact ih u3.1 u3.2 z5 _ _ ls hw (lv_sub hl [1, 2, 0] rfl) h
set_option maxHeartbeats 2000000 in
set_option maxRecDepth 20000 in
theorem c_Out_addAll {l : Launch} {dC : Nat → ClassId} {dI : Nat → Nat → Nat} {cI : ClassId} {tb : Tbs} {a n : Nat → Nat} {K : Nat} (hK2 : K < 4) {Out_size : Int32} {Out_gathered : Int32} {Out_gatheredBits : Int32} {ob : Nat → Int32} {post : Int32 × (Nat → Int32) → Prop} (h : wp_Out_addAll n tb K Out_size ob post) : CtV classes dC dI cI tb l y_Out_addAll prog_3_method_5_code 3 ({ frames := 1, cells := 0, slots := 0, locals := 21 }) [.ref (a 3), .ref (tb K).1] [e_Out a Out_size Out_gathered Out_gatheredBits, e_ar a n cI 11 ob] (Int32 × (Nat → Int32)) (fun u => [e_Out a u.1 Out_gathered Out_gatheredBits, e_ar a n cI 11 u.2]) post := by
  refine startV (by decide) (Nat.le_of_ble_eq_true rfl) ?_
  intro p e s m below meth c ls E hr hlk hnm hl hw
  have hl : lv_has ls 3 [(0, .ref (a 3)), (1, .ref (tb K).1)] := hl
  generalize va_A [e_Out a Out_size Out_gathered Out_gatheredBits, e_ar a n cI 11 ob] s.heap.size = A at hw ⊢
  obtain ⟨hx, hb, hml, hown, hts⟩ := id E
  unfold wp_Out_addAll at h
  refine lv_iconst (v := 0) hx hb d_Out_addAll_0 (by decide) ?_
  refine lv_istore_n (lv' := [(2, .int 0), (0, .ref (a 3)), (1, .ref (tb K).1)]) hx hb d_Out_addAll_1 rfl hl (by decide) rfl (fun ls hl => ?_)
  obtain ⟨N6, h⟩ := h
  exact s_Out_addAll_2 (a := a) (n := n) (tb := tb) E hr hlk hK2  N6 Out_size ob 0 _ _ ls hw (lv_sub hl [1, 2, 0] rfl) h
-- PicturePacker$Output.addNumber(I)V
theorem d_Out_addNumber_0 : decode prog_3_method_6_code 0 = .ok (.bipush 24, 2) := by decide +kernel
theorem d_Out_addNumber_2 : decode prog_3_method_6_code 2 = .ok (.istore_n 2, 1) := by decide +kernel
theorem d_Out_addNumber_3 : decode prog_3_method_6_code 3 = .ok (.iload_n 2, 1) := by decide +kernel
theorem d_Out_addNumber_4 : decode prog_3_method_6_code 4 = .ok (.ifCond .lt 16, 3) := by decide +kernel
theorem d_Out_addNumber_7 : decode prog_3_method_6_code 7 = .ok (.aload_n 0, 1) := by decide +kernel
theorem d_Out_addNumber_8 : decode prog_3_method_6_code 8 = .ok (.iload_n 1, 1) := by decide +kernel
theorem d_Out_addNumber_9 : decode prog_3_method_6_code 9 = .ok (.iload_n 2, 1) := by decide +kernel
theorem d_Out_addNumber_10 : decode prog_3_method_6_code 10 = .ok (.iushr, 1) := by decide +kernel
theorem d_Out_addNumber_11 : decode prog_3_method_6_code 11 = .ok (.invokevirtual 23, 3) := by decide +kernel
theorem d_Out_addNumber_14 : decode prog_3_method_6_code 14 = .ok (.iinc 2 (-8), 3) := by decide +kernel
theorem d_Out_addNumber_17 : decode prog_3_method_6_code 17 = .ok (.goto (-14), 3) := by decide +kernel
theorem d_Out_addNumber_20 : decode prog_3_method_6_code 20 = .ok (.return_, 1) := by decide +kernel
abbrev y_Out_addNumber : MethodName := ⟨"PicturePacker$Output", "addNumber", "(I)V"⟩
def wp_Out_addNumber_3 (n : Nat → Nat) (x1 : Int32) (post : Int32 × (Nat → Int32) → Prop) : Nat → Int32 → (Nat → Int32) → Int32 → Prop
  | 0 => fun _ _ _ => False
  | N + 1 => fun Out_size ob y2 => ((y2 : Int32) < 0 → (post (Out_size, ob))) ∧ (¬ ((y2 : Int32) < 0) → (wp_Out_addByte n Out_size ob (((x1 : Int32).toUInt32 >>> ((y2 : Int32).toUInt32 &&& Int32.toUInt32 31)).toInt32) (fun u2 => ∀ z4 : Int32, z4 = (y2 + (-8)) → (wp_Out_addNumber_3 n x1 post N u2.1 u2.2 z4))))
def wp_Out_addNumber (n : Nat → Nat) (Out_size : Int32) (ob : Nat → Int32) (x1 : Int32) (post : Int32 × (Nat → Int32) → Prop) : Prop := ∃ N5 : Nat, wp_Out_addNumber_3 n x1 post N5 Out_size ob 24
set_option maxHeartbeats 2000000 in
set_option maxRecDepth 20000 in
theorem s_Out_addNumber_3 {l : Launch} {dC : Nat → ClassId} {dI : Nat → Nat → Nat} {cI : ClassId} {tb : Tbs} {a n : Nat → Nat} {p : Program} {e : Env} {s : State} {m : MethodId} {args : Array Value} {below : List Frame} {meth : Method} {c : Code} {A : Nat → Prop} (E : CallFix p m c prog_3_method_6_code 3 s args TBL "PicturePacker$Output") (hr : meth.sig.returnType = none) (hlk : meth.locks = false) {Out_gathered : Int32} {Out_gatheredBits : Int32} {x1 : Int32} {post : Int32 × (Nat → Int32) → Prop} : ∀ (N : Nat) (Out_size : Int32) (ob : Nat → Int32) (y2 : Int32) (H : Heap) (locs : List Loc) (ls : Array Slot), Wl classes dC dI cI tb A s H locs [e_Out a Out_size Out_gathered Out_gatheredBits, e_ar a n cI 11 ob] → lv_has ls 3 [(0, .ref (a 3)), (1, .int x1), (2, .int y2)] → wp_Out_addNumber_3 n x1 post N Out_size ob y2 → W p l e ({ frames := 1, cells := 0, slots := 0, locals := 21 }) s m args below meth c H locs 0 0 (MQ below (va_Qv post (fun u => End0 classes dC dI cI A [e_Out a u.1 Out_gathered Out_gatheredBits, e_ar a n cI 11 u.2]) A) args s 0 0 A) (F0 m 3 ls []) := by
  obtain ⟨hx, hb, hml, hown, hts⟩ := id E
  intro N
  induction N with
  | zero =>
    intro _ _ _ H locs ls hw hl h
    exact absurd h id
  | succ N ih =>
    intro Out_size ob y2 H locs ls hw hl h
    unfold wp_Out_addNumber_3 at h
    refine lv_iload_n hx hb d_Out_addNumber_3 rfl (lv_at hl 2 rfl) ?_
    refine lv_if_lt (tgt := 20) hx hb d_Out_addNumber_4 (by decide) (fun c1 => ?_) (fun c1 => ?_)
    · have h := h.1 c1
      exact retV (out := fun u => [e_Out a u.1 Out_gathered Out_gatheredBits, e_ar a n cI 11 u.2]) (u := (Out_size, ob)) E hr hlk hw h d_Out_addNumber_20
    · have h := h.2 c1
      refine lv_aload_n hx hb d_Out_addNumber_7 rfl (lv_at hl 0 rfl) ?_
      refine lv_iload_n hx hb d_Out_addNumber_8 rfl (lv_at hl 1 rfl) ?_
      refine lv_iload_n hx hb d_Out_addNumber_9 rfl (lv_at hl 2 rfl) ?_
      refine lv_iushr (v := ((x1 : Int32).toUInt32 >>> ((y2 : Int32).toUInt32 &&& Int32.toUInt32 31)).toInt32) hx hb d_Out_addNumber_10 rfl ?_
      refine kVv (y := y_Out_addByte) (ws' := fun u2 => [e_Out a u2.1 Out_gathered Out_gatheredBits, e_ar a n cI 11 u2.2]) (wr := []) (As := [.int (((x1 : Int32).toUInt32 >>> ((y2 : Int32).toUInt32 &&& Int32.toUInt32 31)).toInt32)]) (rest := []) E hw (c_Out_addByte (l := l) (dC := dC) (dI := dI) (cI := cI) (tb := tb) (a := a) (n := n) (Out_size := Out_size) (Out_gathered := Out_gathered) (Out_gatheredBits := Out_gatheredBits) (ob := ob) (x1 := ((x1 : Int32).toUInt32 >>> ((y2 : Int32).toUInt32 &&& Int32.toUInt32 31)).toInt32) h) tw298 tw299 tw300 tw38 tw301 1 (by decide) ⟨Nat.le_of_ble_eq_true rfl, Nat.le_of_ble_eq_true rfl⟩ ⟨Nat.le_of_ble_eq_true rfl, Nat.le_of_ble_eq_true rfl⟩ ⟨rfl, rfl⟩ rfl rfl 0 rfl [0, 1] [] [0, 1] rfl rfl rfl rfl (by decide) rfl (fun _ => rfl) hl.1 rfl rfl (Nat.le_of_ble_eq_true rfl) d_Out_addNumber_11 (fun u2 H locs h hw => ?_)
      obtain ⟨z4, ez4⟩ : ∃ z : Int32, z = y2 + (-8) := ⟨_, rfl⟩
      have h := h z4 ez4
      refine lv_iinc (v := z4) (lv' := [(2, .int z4), (0, .ref (a 3)), (1, .int x1)]) hx hb d_Out_addNumber_14 hl (k := 2) rfl (by rw [ez4]; exact congrArg (y2 + ·) (by decide)) (by decide) rfl (fun ls hl => ?_)
      refine lv_goto (tgt := 3) hx hb d_Out_addNumber_17 (by decide) ?_
      exact ih u2.1 u2.2 z4 _ _ ls hw (lv_sub hl [1, 2, 0] rfl) h
set_option maxHeartbeats 2000000 in
set_option maxRecDepth 20000 in
theorem c_Out_addNumber {l : Launch} {dC : Nat → ClassId} {dI : Nat → Nat → Nat} {cI : ClassId} {tb : Tbs} {a n : Nat → Nat} {Out_size : Int32} {Out_gathered : Int32} {Out_gatheredBits : Int32} {ob : Nat → Int32} {x1 : Int32} {post : Int32 × (Nat → Int32) → Prop} (h : wp_Out_addNumber n Out_size ob x1 post) : CtV classes dC dI cI tb l y_Out_addNumber prog_3_method_6_code 3 ({ frames := 1, cells := 0, slots := 0, locals := 21 }) [.ref (a 3), .int x1] [e_Out a Out_size Out_gathered Out_gatheredBits, e_ar a n cI 11 ob] (Int32 × (Nat → Int32)) (fun u => [e_Out a u.1 Out_gathered Out_gatheredBits, e_ar a n cI 11 u.2]) post := by
  refine startV (by decide) (Nat.le_of_ble_eq_true rfl) ?_
  intro p e s m below meth c ls E hr hlk hnm hl hw
  have hl : lv_has ls 3 [(0, .ref (a 3)), (1, .int x1)] := hl
  generalize va_A [e_Out a Out_size Out_gathered Out_gatheredBits, e_ar a n cI 11 ob] s.heap.size = A at hw ⊢
  obtain ⟨hx, hb, hml, hown, hts⟩ := id E
  unfold wp_Out_addNumber at h
  refine lv_bipush (v := 24) hx hb d_Out_addNumber_0 (by decide) ?_
  refine lv_istore_n (lv' := [(2, .int 24), (0, .ref (a 3)), (1, .int x1)]) hx hb d_Out_addNumber_2 rfl hl (by decide) rfl (fun ls hl => ?_)
  obtain ⟨N5, h⟩ := h
  exact s_Out_addNumber_3 (a := a) (n := n) (tb := tb) E hr hlk  N5 Out_size ob 24 _ _ ls hw (lv_sub hl [1, 2, 0] rfl) h
-- PicturePacker$Output.changeNumber(II)V
theorem d_Out_changeNumber_0 : decode prog_3_method_7_code 0 = .ok (.iload_n 1, 1) := by decide +kernel
theorem d_Out_changeNumber_1 : decode prog_3_method_7_code 1 = .ok (.ifCond .lt 14, 3) := by decide +kernel
theorem d_Out_changeNumber_4 : decode prog_3_method_7_code 4 = .ok (.iload_n 1, 1) := by decide +kernel
theorem d_Out_changeNumber_5 : decode prog_3_method_7_code 5 = .ok (.aload_n 0, 1) := by decide +kernel
theorem d_Out_changeNumber_6 : decode prog_3_method_7_code 6 = .ok (.getfield 7, 3) := by decide +kernel
theorem d_Out_changeNumber_9 : decode prog_3_method_7_code 9 = .ok (.arraylength, 1) := by decide +kernel
theorem d_Out_changeNumber_10 : decode prog_3_method_7_code 10 = .ok (.iconst 3, 1) := by decide +kernel
theorem d_Out_changeNumber_11 : decode prog_3_method_7_code 11 = .ok (.isub, 1) := by decide +kernel
theorem d_Out_changeNumber_12 : decode prog_3_method_7_code 12 = .ok (.if_icmp .lt 4, 3) := by decide +kernel
theorem d_Out_changeNumber_15 : decode prog_3_method_7_code 15 = .ok (.return_, 1) := by decide +kernel
theorem d_Out_changeNumber_16 : decode prog_3_method_7_code 16 = .ok (.iconst 0, 1) := by decide +kernel
theorem d_Out_changeNumber_17 : decode prog_3_method_7_code 17 = .ok (.istore_n 3, 1) := by decide +kernel
theorem d_Out_changeNumber_18 : decode prog_3_method_7_code 18 = .ok (.iload_n 3, 1) := by decide +kernel
theorem d_Out_changeNumber_19 : decode prog_3_method_7_code 19 = .ok (.iconst 4, 1) := by decide +kernel
theorem d_Out_changeNumber_20 : decode prog_3_method_7_code 20 = .ok (.if_icmp .ge 30, 3) := by decide +kernel
theorem d_Out_changeNumber_23 : decode prog_3_method_7_code 23 = .ok (.aload_n 0, 1) := by decide +kernel
theorem d_Out_changeNumber_24 : decode prog_3_method_7_code 24 = .ok (.getfield 7, 3) := by decide +kernel
theorem d_Out_changeNumber_27 : decode prog_3_method_7_code 27 = .ok (.iload_n 1, 1) := by decide +kernel
theorem d_Out_changeNumber_28 : decode prog_3_method_7_code 28 = .ok (.iload_n 3, 1) := by decide +kernel
theorem d_Out_changeNumber_29 : decode prog_3_method_7_code 29 = .ok (.iadd, 1) := by decide +kernel
theorem d_Out_changeNumber_30 : decode prog_3_method_7_code 30 = .ok (.iload_n 2, 1) := by decide +kernel
theorem d_Out_changeNumber_31 : decode prog_3_method_7_code 31 = .ok (.bipush 24, 2) := by decide +kernel
theorem d_Out_changeNumber_33 : decode prog_3_method_7_code 33 = .ok (.bipush 8, 2) := by decide +kernel
theorem d_Out_changeNumber_35 : decode prog_3_method_7_code 35 = .ok (.iload_n 3, 1) := by decide +kernel
theorem d_Out_changeNumber_36 : decode prog_3_method_7_code 36 = .ok (.imul, 1) := by decide +kernel
theorem d_Out_changeNumber_37 : decode prog_3_method_7_code 37 = .ok (.isub, 1) := by decide +kernel
theorem d_Out_changeNumber_38 : decode prog_3_method_7_code 38 = .ok (.iushr, 1) := by decide +kernel
theorem d_Out_changeNumber_39 : decode prog_3_method_7_code 39 = .ok (.sipush 255, 3) := by decide +kernel
theorem d_Out_changeNumber_42 : decode prog_3_method_7_code 42 = .ok (.iand, 1) := by decide +kernel
theorem d_Out_changeNumber_43 : decode prog_3_method_7_code 43 = .ok (.iastore, 1) := by decide +kernel
theorem d_Out_changeNumber_44 : decode prog_3_method_7_code 44 = .ok (.iinc 3 1, 3) := by decide +kernel
theorem d_Out_changeNumber_47 : decode prog_3_method_7_code 47 = .ok (.goto (-29), 3) := by decide +kernel
theorem d_Out_changeNumber_50 : decode prog_3_method_7_code 50 = .ok (.return_, 1) := by decide +kernel
abbrev y_Out_changeNumber : MethodName := ⟨"PicturePacker$Output", "changeNumber", "(II)V"⟩
def wp_Out_changeNumber_18 (n : Nat → Nat) (x1 : Int32) (x2 : Int32) (post : ((Nat → Int32)) → Prop) : Nat → (Nat → Int32) → Int32 → Prop
  | 0 => fun _ _ => False
  | N + 1 => fun ob y3 => ((4 : Int32) ≤ y3 → (post ob)) ∧ (¬ ((4 : Int32) ≤ y3) → (∀ z4 : Int32, z4 = ((((x2 : Int32).toUInt32 >>> ((24 - (8 * y3) : Int32).toUInt32 &&& Int32.toUInt32 31)).toInt32) &&& 255) → (vp_in (x1 + y3) (n 11) ∧ (∀ f6 : Nat → Int32, f6 = upd ob (x1 + y3 : Int32).toNatClampNeg z4 → (∀ z7 : Int32, z7 = (y3 + 1) → (wp_Out_changeNumber_18 n x1 x2 post N f6 z7))))))
def wp_Out_changeNumber (n : Nat → Nat) (ob : Nat → Int32) (x1 : Int32) (x2 : Int32) (post : ((Nat → Int32)) → Prop) : Prop := ((x1 : Int32) < 0 → (post ob)) ∧ (¬ ((x1 : Int32) < 0) → (((x1 : Int32) < ((nI (n 11)) - 3) → (∃ N8 : Nat, wp_Out_changeNumber_18 n x1 x2 post N8 ob 0)) ∧ (¬ ((x1 : Int32) < ((nI (n 11)) - 3)) → (post ob))))
set_option maxHeartbeats 2000000 in
set_option maxRecDepth 20000 in
theorem s_Out_changeNumber_18 {l : Launch} {dC : Nat → ClassId} {dI : Nat → Nat → Nat} {cI : ClassId} {tb : Tbs} {a n : Nat → Nat} {p : Program} {e : Env} {s : State} {m : MethodId} {args : Array Value} {below : List Frame} {meth : Method} {c : Code} {A : Nat → Prop} (E : CallFix p m c prog_3_method_7_code 4 s args TBL "PicturePacker$Output") (hr : meth.sig.returnType = none) (hlk : meth.locks = false) {Out_size : Int32} {Out_gathered : Int32} {Out_gatheredBits : Int32} {x1 : Int32} {x2 : Int32} {post : ((Nat → Int32)) → Prop} : ∀ (N : Nat) (ob : Nat → Int32) (y3 : Int32) (H : Heap) (locs : List Loc) (ls : Array Slot), Wl classes dC dI cI tb A s H locs [e_Out a Out_size Out_gathered Out_gatheredBits, e_ar a n cI 11 ob] → lv_has ls 4 [(0, .ref (a 3)), (1, .int x1), (2, .int x2), (3, .int y3)] → wp_Out_changeNumber_18 n x1 x2 post N ob y3 → W p l e ({ frames := 0, cells := 0, slots := 0, locals := 0 }) s m args below meth c H locs 0 0 (MQ below (va_Qv post (fun u => End0 classes dC dI cI A [e_Out a Out_size Out_gathered Out_gatheredBits, e_ar a n cI 11 u]) A) args s 0 0 A) (F0 m 18 ls []) := by
  obtain ⟨hx, hb, hml, hown, hts⟩ := id E
  intro N
  induction N with
  | zero =>
    intro _ _ H locs ls hw hl h
    exact absurd h id
  | succ N ih =>
    intro ob y3 H locs ls hw hl h
    unfold wp_Out_changeNumber_18 at h
    refine lv_iload_n hx hb d_Out_changeNumber_18 rfl (lv_at hl 3 rfl) ?_
    refine lv_iconst (v := 4) hx hb d_Out_changeNumber_19 (by decide) ?_
    refine lv_icmp_ge (tgt := 50) hx hb d_Out_changeNumber_20 (by decide) (fun c3 => ?_) (fun c3 => ?_)
    · have h := h.1 c3
      exact retV (out := fun u => [e_Out a Out_size Out_gathered Out_gatheredBits, e_ar a n cI 11 u]) (u := ob) E hr hlk hw h d_Out_changeNumber_50
    · have h := h.2 c3
      refine lv_aload_n hx hb d_Out_changeNumber_23 rfl (lv_at hl 0 rfl) ?_
      refine kget (v := .ref (a 11)) (T := F_Out) E hw in_Out rfl 0 0 rfl (by decide) tw117 rfl d_Out_changeNumber_24 ?_
      refine lv_iload_n hx hb d_Out_changeNumber_27 rfl (lv_at hl 1 rfl) ?_
      refine lv_iload_n hx hb d_Out_changeNumber_28 rfl (lv_at hl 3 rfl) ?_
      refine lv_iadd hx hb d_Out_changeNumber_29 ?_
      refine lv_iload_n hx hb d_Out_changeNumber_30 rfl (lv_at hl 2 rfl) ?_
      refine lv_bipush (v := 24) hx hb d_Out_changeNumber_31 (by decide) ?_
      refine lv_bipush (v := 8) hx hb d_Out_changeNumber_33 (by decide) ?_
      refine lv_iload_n hx hb d_Out_changeNumber_35 rfl (lv_at hl 3 rfl) ?_
      refine lv_imul hx hb d_Out_changeNumber_36 ?_
      refine lv_isub hx hb d_Out_changeNumber_37 ?_
      refine lv_iushr (v := ((x2 : Int32).toUInt32 >>> ((24 - (8 * y3) : Int32).toUInt32 &&& Int32.toUInt32 31)).toInt32) hx hb d_Out_changeNumber_38 rfl ?_
      refine lv_sipush (v := 255) hx hb d_Out_changeNumber_39 (by decide) ?_
      refine lv_iand hx hb d_Out_changeNumber_42 ?_
      refine lv_topi (fun z4 ez4 => ?_)
      have h := h z4 ez4
      obtain ⟨b5, h⟩ := h
      obtain ⟨f6, ef6⟩ : ∃ z : Nat → Int32, z = upd ob (x1 + y3 : Int32).toNatClampNeg z4 := ⟨_, rfl⟩
      have h := h f6 ef6
      refine kast (ws' := [e_Out a Out_size Out_gathered Out_gatheredBits, e_ar a n cI 11 f6]) E hw 1 rfl b5 (by rw [ef6]; rfl) d_Out_changeNumber_43 (fun H locs hw => ?_)
      obtain ⟨z7, ez7⟩ : ∃ z : Int32, z = y3 + 1 := ⟨_, rfl⟩
      have h := h z7 ez7
      refine lv_iinc (v := z7) (lv' := [(3, .int z7), (0, .ref (a 3)), (1, .int x1), (2, .int x2)]) hx hb d_Out_changeNumber_44 hl (k := 3) rfl (by rw [ez7]; exact congrArg (y3 + ·) (by decide)) (by decide) rfl (fun ls hl => ?_)
      refine lv_goto (tgt := 18) hx hb d_Out_changeNumber_47 (by decide) ?_
      exact ih f6 z7 _ _ ls hw (lv_sub hl [1, 2, 3, 0] rfl) h
set_option maxHeartbeats 2000000 in
set_option maxRecDepth 20000 in
theorem c_Out_changeNumber {l : Launch} {dC : Nat → ClassId} {dI : Nat → Nat → Nat} {cI : ClassId} {tb : Tbs} {a n : Nat → Nat} {Out_size : Int32} {Out_gathered : Int32} {Out_gatheredBits : Int32} {ob : Nat → Int32} {x1 : Int32} {x2 : Int32} {post : ((Nat → Int32)) → Prop} (h : wp_Out_changeNumber n ob x1 x2 post) : CtV classes dC dI cI tb l y_Out_changeNumber prog_3_method_7_code 4 ({ frames := 0, cells := 0, slots := 0, locals := 0 }) [.ref (a 3), .int x1, .int x2] [e_Out a Out_size Out_gathered Out_gatheredBits, e_ar a n cI 11 ob] ((Nat → Int32)) (fun u => [e_Out a Out_size Out_gathered Out_gatheredBits, e_ar a n cI 11 u]) post := by
  refine startV (by decide) (Nat.le_of_ble_eq_true rfl) ?_
  intro p e s m below meth c ls E hr hlk hnm hl hw
  have hl : lv_has ls 4 [(0, .ref (a 3)), (1, .int x1), (2, .int x2)] := hl
  generalize va_A [e_Out a Out_size Out_gathered Out_gatheredBits, e_ar a n cI 11 ob] s.heap.size = A at hw ⊢
  obtain ⟨hx, hb, hml, hown, hts⟩ := id E
  unfold wp_Out_changeNumber at h
  refine lv_iload_n hx hb d_Out_changeNumber_0 rfl (lv_at hl 1 rfl) ?_
  refine lv_if_lt (tgt := 15) hx hb d_Out_changeNumber_1 (by decide) (fun c1 => ?_) (fun c1 => ?_)
  · have h := h.1 c1
    exact retV (out := fun u => [e_Out a Out_size Out_gathered Out_gatheredBits, e_ar a n cI 11 u]) (u := ob) E hr hlk hw h d_Out_changeNumber_15
  · have h := h.2 c1
    refine lv_iload_n hx hb d_Out_changeNumber_4 rfl (lv_at hl 1 rfl) ?_
    refine lv_aload_n hx hb d_Out_changeNumber_5 rfl (lv_at hl 0 rfl) ?_
    refine kget (v := .ref (a 11)) (T := F_Out) E hw in_Out rfl 0 0 rfl (by decide) tw117 rfl d_Out_changeNumber_6 ?_
    refine kalen E hw 1 rfl d_Out_changeNumber_9 ?_
    refine lv_iconst (v := 3) hx hb d_Out_changeNumber_10 (by decide) ?_
    refine lv_isub hx hb d_Out_changeNumber_11 ?_
    refine lv_icmp_lt (tgt := 16) hx hb d_Out_changeNumber_12 (by decide) (fun c2 => ?_) (fun c2 => ?_)
    · have h := h.1 c2
      refine lv_iconst (v := 0) hx hb d_Out_changeNumber_16 (by decide) ?_
      refine lv_istore_n (lv' := [(3, .int 0), (0, .ref (a 3)), (1, .int x1), (2, .int x2)]) hx hb d_Out_changeNumber_17 rfl hl (by decide) rfl (fun ls hl => ?_)
      obtain ⟨N8, h⟩ := h
      exact s_Out_changeNumber_18 (a := a) (n := n) (tb := tb) E hr hlk  N8 ob 0 _ _ ls hw (lv_sub hl [1, 2, 3, 0] rfl) h
    · have h := h.2 c2
      exact retV (out := fun u => [e_Out a Out_size Out_gathered Out_gatheredBits, e_ar a n cI 11 u]) (u := ob) E hr hlk hw h d_Out_changeNumber_15
-- PicturePacker$Output.roomFor(I)I
theorem d_Out_roomFor_0 : decode prog_3_method_2_code 0 = .ok (.bipush 63, 2) := by decide +kernel
theorem d_Out_roomFor_2 : decode prog_3_method_2_code 2 = .ok (.bipush 9, 2) := by decide +kernel
theorem d_Out_roomFor_4 : decode prog_3_method_2_code 4 = .ok (.iload_n 0, 1) := by decide +kernel
theorem d_Out_roomFor_5 : decode prog_3_method_2_code 5 = .ok (.imul, 1) := by decide +kernel
theorem d_Out_roomFor_6 : decode prog_3_method_2_code 6 = .ok (.bipush 10, 2) := by decide +kernel
theorem d_Out_roomFor_8 : decode prog_3_method_2_code 8 = .ok (.iadd, 1) := by decide +kernel
theorem d_Out_roomFor_9 : decode prog_3_method_2_code 9 = .ok (.bipush 7, 2) := by decide +kernel
theorem d_Out_roomFor_11 : decode prog_3_method_2_code 11 = .ok (.iadd, 1) := by decide +kernel
theorem d_Out_roomFor_12 : decode prog_3_method_2_code 12 = .ok (.bipush 8, 2) := by decide +kernel
theorem d_Out_roomFor_14 : decode prog_3_method_2_code 14 = .ok (.idiv, 1) := by decide +kernel
theorem d_Out_roomFor_15 : decode prog_3_method_2_code 15 = .ok (.iadd, 1) := by decide +kernel
theorem d_Out_roomFor_16 : decode prog_3_method_2_code 16 = .ok (.ireturn, 1) := by decide +kernel
abbrev y_Out_roomFor : MethodName := ⟨"PicturePacker$Output", "roomFor", "(I)I"⟩
def wp_Out_roomFor (n : Nat → Nat) (x0 : Int32) (post : Int32 → Unit → Prop) : Prop := post (63 + ((((9 * x0) + 10) + 7) / 8)) ()
set_option maxHeartbeats 2000000 in
set_option maxRecDepth 20000 in
theorem c_Out_roomFor {l : Launch} {dC : Nat → ClassId} {dI : Nat → Nat → Nat} {cI : ClassId} {tb : Tbs} {a n : Nat → Nat} {x0 : Int32} {post : Int32 → Unit → Prop} (h : wp_Out_roomFor n x0 post) : CtI classes dC dI cI tb l y_Out_roomFor prog_3_method_2_code 1 .int ({ frames := 0, cells := 0, slots := 0, locals := 0 }) [.int x0] [] (Unit) (fun _ => []) post := by
  refine startI (by decide) (Nat.le_of_ble_eq_true rfl) ?_
  intro p e s m below meth c ls E hr hlk hnm hl hw
  have hl : lv_has ls 1 [(0, .int x0)] := hl
  generalize va_A [] s.heap.size = A at hw ⊢
  obtain ⟨hx, hb, hml, hown, hts⟩ := id E
  unfold wp_Out_roomFor at h
  refine lv_bipush (v := 63) hx hb d_Out_roomFor_0 (by decide) ?_
  refine lv_bipush (v := 9) hx hb d_Out_roomFor_2 (by decide) ?_
  refine lv_iload_n hx hb d_Out_roomFor_4 rfl (lv_at hl 0 rfl) ?_
  refine lv_imul hx hb d_Out_roomFor_5 ?_
  refine lv_bipush (v := 10) hx hb d_Out_roomFor_6 (by decide) ?_
  refine lv_iadd hx hb d_Out_roomFor_8 ?_
  refine lv_bipush (v := 7) hx hb d_Out_roomFor_9 (by decide) ?_
  refine lv_iadd hx hb d_Out_roomFor_11 ?_
  refine lv_bipush (v := 8) hx hb d_Out_roomFor_12 (by decide) ?_
  refine lv_idiv hx hb d_Out_roomFor_14 (by decide) ?_
  refine lv_iadd hx hb d_Out_roomFor_15 ?_
  exact retI (out := fun u => []) (u := ()) E hr hlk rfl hw h d_Out_roomFor_16
