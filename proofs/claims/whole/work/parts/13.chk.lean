-- PicturePacker$Chunks.eightSteps(I)I
theorem d_Chk_eightSteps_0 : decode prog_2_method_2_code 0 = .ok (.iload_n 0, 1) := by decide +kernel
theorem d_Chk_eightSteps_1 : decode prog_2_method_2_code 1 = .ok (.istore_n 1, 1) := by decide +kernel
theorem d_Chk_eightSteps_2 : decode prog_2_method_2_code 2 = .ok (.iconst 0, 1) := by decide +kernel
theorem d_Chk_eightSteps_3 : decode prog_2_method_2_code 3 = .ok (.istore_n 2, 1) := by decide +kernel
theorem d_Chk_eightSteps_4 : decode prog_2_method_2_code 4 = .ok (.iload_n 2, 1) := by decide +kernel
theorem d_Chk_eightSteps_5 : decode prog_2_method_2_code 5 = .ok (.bipush 8, 2) := by decide +kernel
theorem d_Chk_eightSteps_7 : decode prog_2_method_2_code 7 = .ok (.if_icmp .ge 29, 3) := by decide +kernel
theorem d_Chk_eightSteps_10 : decode prog_2_method_2_code 10 = .ok (.iload_n 1, 1) := by decide +kernel
theorem d_Chk_eightSteps_11 : decode prog_2_method_2_code 11 = .ok (.iconst 1, 1) := by decide +kernel
theorem d_Chk_eightSteps_12 : decode prog_2_method_2_code 12 = .ok (.iand, 1) := by decide +kernel
theorem d_Chk_eightSteps_13 : decode prog_2_method_2_code 13 = .ok (.iconst 1, 1) := by decide +kernel
theorem d_Chk_eightSteps_14 : decode prog_2_method_2_code 14 = .ok (.if_icmp .ne 12, 3) := by decide +kernel
theorem d_Chk_eightSteps_17 : decode prog_2_method_2_code 17 = .ok (.iload_n 1, 1) := by decide +kernel
theorem d_Chk_eightSteps_18 : decode prog_2_method_2_code 18 = .ok (.iconst 1, 1) := by decide +kernel
theorem d_Chk_eightSteps_19 : decode prog_2_method_2_code 19 = .ok (.iushr, 1) := by decide +kernel
theorem d_Chk_eightSteps_20 : decode prog_2_method_2_code 20 = .ok (.ldc 21, 2) := by decide +kernel
theorem d_Chk_eightSteps_22 : decode prog_2_method_2_code 22 = .ok (.ixor, 1) := by decide +kernel
theorem d_Chk_eightSteps_23 : decode prog_2_method_2_code 23 = .ok (.goto 6, 3) := by decide +kernel
theorem d_Chk_eightSteps_26 : decode prog_2_method_2_code 26 = .ok (.iload_n 1, 1) := by decide +kernel
theorem d_Chk_eightSteps_27 : decode prog_2_method_2_code 27 = .ok (.iconst 1, 1) := by decide +kernel
theorem d_Chk_eightSteps_28 : decode prog_2_method_2_code 28 = .ok (.iushr, 1) := by decide +kernel
theorem d_Chk_eightSteps_29 : decode prog_2_method_2_code 29 = .ok (.istore_n 1, 1) := by decide +kernel
theorem d_Chk_eightSteps_30 : decode prog_2_method_2_code 30 = .ok (.iinc 2 1, 3) := by decide +kernel
theorem d_Chk_eightSteps_33 : decode prog_2_method_2_code 33 = .ok (.goto (-29), 3) := by decide +kernel
theorem d_Chk_eightSteps_36 : decode prog_2_method_2_code 36 = .ok (.iload_n 1, 1) := by decide +kernel
theorem d_Chk_eightSteps_37 : decode prog_2_method_2_code 37 = .ok (.ireturn, 1) := by decide +kernel
abbrev y_Chk_eightSteps : MethodName := ⟨"PicturePacker$Chunks", "eightSteps", "(I)I"⟩
def wp_Chk_eightSteps_4 (n : Nat → Nat) (x0 : Int32) (post : Int32 → Unit → Prop) : Nat → Int32 → Int32 → Prop
  | 0 => fun _ _ => False
  | N + 1 => fun y1 y2 => ((8 : Int32) ≤ y2 → (post y1 ())) ∧ (¬ ((8 : Int32) ≤ y2) → ((¬ (y1 &&& 1 : Int32) = 1 → (∀ z3 : Int32, z3 = (((y1 : Int32).toUInt32 >>> ((1 : Int32).toUInt32 &&& Int32.toUInt32 31)).toInt32) → (∀ z4 : Int32, z4 = (y2 + 1) → (wp_Chk_eightSteps_4 n x0 post N z3 z4)))) ∧ ((y1 &&& 1 : Int32) = 1 → (∀ z5 : Int32, z5 = ((((y1 : Int32).toUInt32 >>> ((1 : Int32).toUInt32 &&& Int32.toUInt32 31)).toInt32) ^^^ ((-306674912))) → (∀ z6 : Int32, z6 = (y2 + 1) → (wp_Chk_eightSteps_4 n x0 post N z5 z6))))))
def wp_Chk_eightSteps (n : Nat → Nat) (x0 : Int32) (post : Int32 → Unit → Prop) : Prop := ∃ N7 : Nat, wp_Chk_eightSteps_4 n x0 post N7 x0 0
set_option maxHeartbeats 2000000 in
set_option maxRecDepth 20000 in
theorem s_Chk_eightSteps_4 {l : Launch} {dC : Nat → ClassId} {dI : Nat → Nat → Nat} {cI : ClassId} {tb : Tbs} {a n : Nat → Nat} {p : Program} {e : Env} {s : State} {m : MethodId} {args : Array Value} {below : List Frame} {meth : Method} {c : Code} {A : Nat → Prop} (E : CallFix p m c prog_2_method_2_code 3 s args TBL "PicturePacker$Chunks") (hr : meth.sig.returnType = some .int) (hlk : meth.locks = false) {x0 : Int32} {post : Int32 → Unit → Prop} : ∀ (N : Nat) (y1 : Int32) (y2 : Int32) (H : Heap) (locs : List Loc) (ls : Array Slot), Wl classes dC dI cI tb A s H locs [] → lv_has ls 3 [(1, .int y1), (2, .int y2)] → wp_Chk_eightSteps_4 n x0 post N y1 y2 → W p l e ({ frames := 0, cells := 0, slots := 0, locals := 0 }) s m args below meth c H locs 0 0 (MQ below (va_Qi post (fun u => End0 classes dC dI cI A []) A) args s 0 0 A) (F0 m 4 ls []) := by
  obtain ⟨hx, hb, hml, hown, hts⟩ := id E
  intro N
  induction N with
  | zero =>
    intro _ _ H locs ls hw hl h
    exact absurd h id
  | succ N ih =>
    intro y1 y2 H locs ls hw hl h
    unfold wp_Chk_eightSteps_4 at h
    refine lv_iload_n hx hb d_Chk_eightSteps_4 rfl (lv_at hl 1 rfl) ?_
    refine lv_bipush (v := 8) hx hb d_Chk_eightSteps_5 (by decide) ?_
    refine lv_icmp_ge (tgt := 36) hx hb d_Chk_eightSteps_7 (by decide) (fun c1 => ?_) (fun c1 => ?_)
    · have h := h.1 c1
      refine lv_iload_n hx hb d_Chk_eightSteps_36 rfl (lv_at hl 0 rfl) ?_
      exact retI (out := fun u => []) (u := ()) E hr hlk rfl hw h d_Chk_eightSteps_37
    · have h := h.2 c1
      refine lv_iload_n hx hb d_Chk_eightSteps_10 rfl (lv_at hl 0 rfl) ?_
      refine lv_iconst (v := 1) hx hb d_Chk_eightSteps_11 (by decide) ?_
      refine lv_iand hx hb d_Chk_eightSteps_12 ?_
      refine lv_iconst (v := 1) hx hb d_Chk_eightSteps_13 (by decide) ?_
      refine lv_icmp_ne (tgt := 26) hx hb d_Chk_eightSteps_14 (by decide) (fun c2 => ?_) (fun c2 => ?_)
      · have h := h.1 c2
        refine lv_iload_n hx hb d_Chk_eightSteps_26 rfl (lv_at hl 0 rfl) ?_
        refine lv_iconst (v := 1) hx hb d_Chk_eightSteps_27 (by decide) ?_
        refine lv_iushr (v := ((y1 : Int32).toUInt32 >>> ((1 : Int32).toUInt32 &&& Int32.toUInt32 31)).toInt32) hx hb d_Chk_eightSteps_28 rfl ?_
        refine lv_topi (fun z3 ez3 => ?_)
        have h := h z3 ez3
        refine lv_istore_n (lv' := [(1, .int z3), (2, .int y2)]) hx hb d_Chk_eightSteps_29 rfl hl (by decide) rfl (fun ls hl => ?_)
        obtain ⟨z4, ez4⟩ : ∃ z : Int32, z = y2 + 1 := ⟨_, rfl⟩
        have h := h z4 ez4
        refine lv_iinc (v := z4) (lv' := [(2, .int z4), (1, .int z3)]) hx hb d_Chk_eightSteps_30 hl (k := 1) rfl (by rw [ez4]; exact congrArg (y2 + ·) (by decide)) (by decide) rfl (fun ls hl => ?_)
        refine lv_goto (tgt := 4) hx hb d_Chk_eightSteps_33 (by decide) ?_
        exact ih z3 z4 _ _ ls hw (lv_sub hl [1, 0] rfl) h
      · have h := h.2 c2
        refine lv_iload_n hx hb d_Chk_eightSteps_17 rfl (lv_at hl 0 rfl) ?_
        refine lv_iconst (v := 1) hx hb d_Chk_eightSteps_18 (by decide) ?_
        refine lv_iushr (v := ((y1 : Int32).toUInt32 >>> ((1 : Int32).toUInt32 &&& Int32.toUInt32 31)).toInt32) hx hb d_Chk_eightSteps_19 rfl ?_
        refine lv_ldc (v := (-306674912)) hx hb hown (hts _ tw143) d_Chk_eightSteps_20 ?_
        refine lv_ixor hx hb d_Chk_eightSteps_22 ?_
        refine lv_goto (tgt := 29) hx hb d_Chk_eightSteps_23 (by decide) ?_
        refine lv_topi (fun z5 ez5 => ?_)
        have h := h z5 ez5
        refine lv_istore_n (lv' := [(1, .int z5), (2, .int y2)]) hx hb d_Chk_eightSteps_29 rfl hl (by decide) rfl (fun ls hl => ?_)
        obtain ⟨z6, ez6⟩ : ∃ z : Int32, z = y2 + 1 := ⟨_, rfl⟩
        have h := h z6 ez6
        refine lv_iinc (v := z6) (lv' := [(2, .int z6), (1, .int z5)]) hx hb d_Chk_eightSteps_30 hl (k := 1) rfl (by rw [ez6]; exact congrArg (y2 + ·) (by decide)) (by decide) rfl (fun ls hl => ?_)
        refine lv_goto (tgt := 4) hx hb d_Chk_eightSteps_33 (by decide) ?_
        exact ih z5 z6 _ _ ls hw (lv_sub hl [1, 0] rfl) h
set_option maxHeartbeats 2000000 in
set_option maxRecDepth 20000 in
theorem c_Chk_eightSteps {l : Launch} {dC : Nat → ClassId} {dI : Nat → Nat → Nat} {cI : ClassId} {tb : Tbs} {a n : Nat → Nat} {x0 : Int32} {post : Int32 → Unit → Prop} (h : wp_Chk_eightSteps n x0 post) : CtI classes dC dI cI tb l y_Chk_eightSteps prog_2_method_2_code 3 .int ({ frames := 0, cells := 0, slots := 0, locals := 0 }) [.int x0] [] (Unit) (fun _ => []) post := by
  refine startI (by decide) (Nat.le_of_ble_eq_true rfl) ?_
  intro p e s m below meth c ls E hr hlk hnm hl hw
  have hl : lv_has ls 3 [(0, .int x0)] := hl
  generalize va_A [] s.heap.size = A at hw ⊢
  obtain ⟨hx, hb, hml, hown, hts⟩ := id E
  unfold wp_Chk_eightSteps at h
  refine lv_iload_n hx hb d_Chk_eightSteps_0 rfl (lv_at hl 0 rfl) ?_
  refine lv_istore_n (lv' := [(1, .int x0), (0, .int x0)]) hx hb d_Chk_eightSteps_1 rfl hl (by decide) rfl (fun ls hl => ?_)
  refine lv_iconst (v := 0) hx hb d_Chk_eightSteps_2 (by decide) ?_
  refine lv_istore_n (lv' := [(2, .int 0), (1, .int x0), (0, .int x0)]) hx hb d_Chk_eightSteps_3 rfl hl (by decide) rfl (fun ls hl => ?_)
  obtain ⟨N7, h⟩ := h
  exact s_Chk_eightSteps_4 (a := a) (n := n) (tb := tb) E hr hlk  N7 x0 0 _ _ ls hw (lv_sub hl [1, 0] rfl) h
-- PicturePacker$Chunks.crc(II)I
theorem d_Chk_crc_0 : decode prog_2_method_5_code 0 = .ok (.iconst (-1), 1) := by decide +kernel
theorem d_Chk_crc_1 : decode prog_2_method_5_code 1 = .ok (.istore_n 3, 1) := by decide +kernel
theorem d_Chk_crc_2 : decode prog_2_method_5_code 2 = .ok (.iload_n 1, 1) := by decide +kernel
theorem d_Chk_crc_3 : decode prog_2_method_5_code 3 = .ok (.iconst 0, 1) := by decide +kernel
theorem d_Chk_crc_4 : decode prog_2_method_5_code 4 = .ok (.invokestatic 43, 3) := by decide +kernel
theorem d_Chk_crc_7 : decode prog_2_method_5_code 7 = .ok (.istore 4, 2) := by decide +kernel
theorem d_Chk_crc_9 : decode prog_2_method_5_code 9 = .ok (.iload 4, 2) := by decide +kernel
theorem d_Chk_crc_11 : decode prog_2_method_5_code 11 = .ok (.iload_n 2, 1) := by decide +kernel
theorem d_Chk_crc_12 : decode prog_2_method_5_code 12 = .ok (.if_icmp .ge 49, 3) := by decide +kernel
theorem d_Chk_crc_15 : decode prog_2_method_5_code 15 = .ok (.iload 4, 2) := by decide +kernel
theorem d_Chk_crc_17 : decode prog_2_method_5_code 17 = .ok (.aload_n 0, 1) := by decide +kernel
theorem d_Chk_crc_18 : decode prog_2_method_5_code 18 = .ok (.getfield 7, 3) := by decide +kernel
theorem d_Chk_crc_21 : decode prog_2_method_5_code 21 = .ok (.getfield 48, 3) := by decide +kernel
theorem d_Chk_crc_24 : decode prog_2_method_5_code 24 = .ok (.arraylength, 1) := by decide +kernel
theorem d_Chk_crc_25 : decode prog_2_method_5_code 25 = .ok (.if_icmp .ge 36, 3) := by decide +kernel
theorem d_Chk_crc_28 : decode prog_2_method_5_code 28 = .ok (.iload_n 3, 1) := by decide +kernel
theorem d_Chk_crc_29 : decode prog_2_method_5_code 29 = .ok (.bipush 8, 2) := by decide +kernel
theorem d_Chk_crc_31 : decode prog_2_method_5_code 31 = .ok (.iushr, 1) := by decide +kernel
theorem d_Chk_crc_32 : decode prog_2_method_5_code 32 = .ok (.aload_n 0, 1) := by decide +kernel
theorem d_Chk_crc_33 : decode prog_2_method_5_code 33 = .ok (.getfield 13, 3) := by decide +kernel
theorem d_Chk_crc_36 : decode prog_2_method_5_code 36 = .ok (.iload_n 3, 1) := by decide +kernel
theorem d_Chk_crc_37 : decode prog_2_method_5_code 37 = .ok (.aload_n 0, 1) := by decide +kernel
theorem d_Chk_crc_38 : decode prog_2_method_5_code 38 = .ok (.getfield 7, 3) := by decide +kernel
theorem d_Chk_crc_41 : decode prog_2_method_5_code 41 = .ok (.getfield 48, 3) := by decide +kernel
theorem d_Chk_crc_44 : decode prog_2_method_5_code 44 = .ok (.iload 4, 2) := by decide +kernel
theorem d_Chk_crc_46 : decode prog_2_method_5_code 46 = .ok (.iaload, 1) := by decide +kernel
theorem d_Chk_crc_47 : decode prog_2_method_5_code 47 = .ok (.ixor, 1) := by decide +kernel
theorem d_Chk_crc_48 : decode prog_2_method_5_code 48 = .ok (.sipush 255, 3) := by decide +kernel
theorem d_Chk_crc_51 : decode prog_2_method_5_code 51 = .ok (.iand, 1) := by decide +kernel
theorem d_Chk_crc_52 : decode prog_2_method_5_code 52 = .ok (.iaload, 1) := by decide +kernel
theorem d_Chk_crc_53 : decode prog_2_method_5_code 53 = .ok (.ixor, 1) := by decide +kernel
theorem d_Chk_crc_54 : decode prog_2_method_5_code 54 = .ok (.istore_n 3, 1) := by decide +kernel
theorem d_Chk_crc_55 : decode prog_2_method_5_code 55 = .ok (.iinc 4 1, 3) := by decide +kernel
theorem d_Chk_crc_58 : decode prog_2_method_5_code 58 = .ok (.goto (-49), 3) := by decide +kernel
theorem d_Chk_crc_61 : decode prog_2_method_5_code 61 = .ok (.iload_n 3, 1) := by decide +kernel
theorem d_Chk_crc_62 : decode prog_2_method_5_code 62 = .ok (.iconst (-1), 1) := by decide +kernel
theorem d_Chk_crc_63 : decode prog_2_method_5_code 63 = .ok (.ixor, 1) := by decide +kernel
theorem d_Chk_crc_64 : decode prog_2_method_5_code 64 = .ok (.ireturn, 1) := by decide +kernel
abbrev y_Chk_crc : MethodName := ⟨"PicturePacker$Chunks", "crc", "(II)I"⟩
def wp_Chk_crc_9 (n : Nat → Nat) (ob : Nat → Int32) (ct : Nat → Int32) (x1 : Int32) (x2 : Int32) (post : Int32 → Unit → Prop) : Nat → Int32 → Int32 → Prop
  | 0 => fun _ _ => False
  | N + 1 => fun y3 y4 => ((x2 : Int32) ≤ y4 → (post (y3 ^^^ ((-1))) ())) ∧ (¬ ((x2 : Int32) ≤ y4) → (((nI (n 11) : Int32) ≤ y4 → (post (y3 ^^^ ((-1))) ())) ∧ (¬ ((nI (n 11) : Int32) ≤ y4) → (vp_in y4 (n 11) ∧ (vp_in ((y3 ^^^ (ob (y4 : Int32).toNatClampNeg)) &&& 255) (n 12) ∧ (∀ z6 : Int32, z6 = ((((y3 : Int32).toUInt32 >>> ((8 : Int32).toUInt32 &&& Int32.toUInt32 31)).toInt32) ^^^ (ct ((y3 ^^^ (ob (y4 : Int32).toNatClampNeg)) &&& 255 : Int32).toNatClampNeg)) → (∀ z7 : Int32, z7 = (y4 + 1) → (wp_Chk_crc_9 n ob ct x1 x2 post N z6 z7))))))))
def wp_Chk_crc (n : Nat → Nat) (ob : Nat → Int32) (ct : Nat → Int32) (x1 : Int32) (x2 : Int32) (post : Int32 → Unit → Prop) : Prop := ∀ z1 : Int32, z1 = (if (x1 : Int32) < 0 then 0 else x1) → (∃ N8 : Nat, wp_Chk_crc_9 n ob ct x1 x2 post N8 ((-1)) z1)
set_option maxHeartbeats 2000000 in
set_option maxRecDepth 20000 in
theorem s_Chk_crc_9 {l : Launch} {dC : Nat → ClassId} {dI : Nat → Nat → Nat} {cI : ClassId} {tb : Tbs} {a n : Nat → Nat} {p : Program} {e : Env} {s : State} {m : MethodId} {args : Array Value} {below : List Frame} {meth : Method} {c : Code} {A : Nat → Prop} (E : CallFix p m c prog_2_method_5_code 5 s args TBL "PicturePacker$Chunks") (hr : meth.sig.returnType = some .int) (hlk : meth.locks = false) {Out_size : Int32} {Out_gathered : Int32} {Out_gatheredBits : Int32} {Chk_start : Int32} {ob : Nat → Int32} {ct : Nat → Int32} {x1 : Int32} {x2 : Int32} {post : Int32 → Unit → Prop} : ∀ (N : Nat) (y3 : Int32) (y4 : Int32) (H : Heap) (locs : List Loc) (ls : Array Slot), Wl classes dC dI cI tb A s H locs [e_Out a Out_size Out_gathered Out_gatheredBits, e_Chk a Chk_start, e_ar a n cI 11 ob, e_ar a n cI 12 ct] → lv_has ls 5 [(0, .ref (a 4)), (2, .int x2), (3, .int y3), (4, .int y4)] → wp_Chk_crc_9 n ob ct x1 x2 post N y3 y4 → W p l e ({ frames := 1, cells := 0, slots := 0, locals := 21 }) s m args below meth c H locs 0 0 (MQ below (va_Qi post (fun u => End0 classes dC dI cI A [e_Out a Out_size Out_gathered Out_gatheredBits, e_Chk a Chk_start, e_ar a n cI 11 ob, e_ar a n cI 12 ct]) A) args s 0 0 A) (F0 m 9 ls []) := by
  obtain ⟨hx, hb, hml, hown, hts⟩ := id E
  intro N
  induction N with
  | zero =>
    intro _ _ H locs ls hw hl h
    exact absurd h id
  | succ N ih =>
    intro y3 y4 H locs ls hw hl h
    unfold wp_Chk_crc_9 at h
    refine lv_iload hx hb d_Chk_crc_9 (lv_at hl 3 rfl) ?_
    refine lv_iload_n hx hb d_Chk_crc_11 rfl (lv_at hl 1 rfl) ?_
    refine lv_icmp_ge (tgt := 61) hx hb d_Chk_crc_12 (by decide) (fun c2 => ?_) (fun c2 => ?_)
    · have h := h.1 c2
      refine lv_iload_n hx hb d_Chk_crc_61 rfl (lv_at hl 2 rfl) ?_
      refine lv_iconst (v := (-1)) hx hb d_Chk_crc_62 (by decide) ?_
      refine lv_ixor hx hb d_Chk_crc_63 ?_
      exact retI (out := fun u => [e_Out a Out_size Out_gathered Out_gatheredBits, e_Chk a Chk_start, e_ar a n cI 11 ob, e_ar a n cI 12 ct]) (u := ()) E hr hlk rfl hw h d_Chk_crc_64
    · have h := h.2 c2
      refine lv_iload hx hb d_Chk_crc_15 (lv_at hl 3 rfl) ?_
      refine lv_aload_n hx hb d_Chk_crc_17 rfl (lv_at hl 0 rfl) ?_
      refine kget (v := .ref (a 3)) (T := F_Chk) E hw in_Chk rfl 1 0 rfl (by decide) tw144 rfl d_Chk_crc_18 ?_
      refine kget (v := .ref (a 11)) (T := F_Out) E hw in_Out rfl 0 0 rfl (by decide) tw118 rfl d_Chk_crc_21 ?_
      refine kalen E hw 2 rfl d_Chk_crc_24 ?_
      refine lv_icmp_ge (tgt := 61) hx hb d_Chk_crc_25 (by decide) (fun c3 => ?_) (fun c3 => ?_)
      · have h := h.1 c3
        refine lv_iload_n hx hb d_Chk_crc_61 rfl (lv_at hl 2 rfl) ?_
        refine lv_iconst (v := (-1)) hx hb d_Chk_crc_62 (by decide) ?_
        refine lv_ixor hx hb d_Chk_crc_63 ?_
        exact retI (out := fun u => [e_Out a Out_size Out_gathered Out_gatheredBits, e_Chk a Chk_start, e_ar a n cI 11 ob, e_ar a n cI 12 ct]) (u := ()) E hr hlk rfl hw h d_Chk_crc_64
      · have h := h.2 c3
        refine lv_iload_n hx hb d_Chk_crc_28 rfl (lv_at hl 2 rfl) ?_
        refine lv_bipush (v := 8) hx hb d_Chk_crc_29 (by decide) ?_
        refine lv_iushr (v := ((y3 : Int32).toUInt32 >>> ((8 : Int32).toUInt32 &&& Int32.toUInt32 31)).toInt32) hx hb d_Chk_crc_31 rfl ?_
        refine lv_aload_n hx hb d_Chk_crc_32 rfl (lv_at hl 0 rfl) ?_
        refine kget (v := .ref (a 12)) (T := F_Chk) E hw in_Chk rfl 1 1 rfl (by decide) tw145 rfl d_Chk_crc_33 ?_
        refine lv_iload_n hx hb d_Chk_crc_36 rfl (lv_at hl 2 rfl) ?_
        refine lv_aload_n hx hb d_Chk_crc_37 rfl (lv_at hl 0 rfl) ?_
        refine kget (v := .ref (a 3)) (T := F_Chk) E hw in_Chk rfl 1 0 rfl (by decide) tw144 rfl d_Chk_crc_38 ?_
        refine kget (v := .ref (a 11)) (T := F_Out) E hw in_Out rfl 0 0 rfl (by decide) tw118 rfl d_Chk_crc_41 ?_
        refine lv_iload hx hb d_Chk_crc_44 (lv_at hl 3 rfl) ?_
        obtain ⟨b4, h⟩ := h
        refine kald E hw 2 rfl b4 d_Chk_crc_46 ?_
        refine lv_ixor hx hb d_Chk_crc_47 ?_
        refine lv_sipush (v := 255) hx hb d_Chk_crc_48 (by decide) ?_
        refine lv_iand hx hb d_Chk_crc_51 ?_
        obtain ⟨b5, h⟩ := h
        refine kald E hw 3 rfl b5 d_Chk_crc_52 ?_
        refine lv_ixor hx hb d_Chk_crc_53 ?_
        refine lv_topi (fun z6 ez6 => ?_)
        have h := h z6 ez6
        refine lv_istore_n (lv' := [(3, .int z6), (0, .ref (a 4)), (2, .int x2), (4, .int y4)]) hx hb d_Chk_crc_54 rfl hl (by decide) rfl (fun ls hl => ?_)
        obtain ⟨z7, ez7⟩ : ∃ z : Int32, z = y4 + 1 := ⟨_, rfl⟩
        have h := h z7 ez7
        refine lv_iinc (v := z7) (lv' := [(4, .int z7), (3, .int z6), (0, .ref (a 4)), (2, .int x2)]) hx hb d_Chk_crc_55 hl (k := 3) rfl (by rw [ez7]; exact congrArg (y4 + ·) (by decide)) (by decide) rfl (fun ls hl => ?_)
        refine lv_goto (tgt := 9) hx hb d_Chk_crc_58 (by decide) ?_
        exact ih z6 z7 _ _ ls hw (lv_sub hl [2, 3, 1, 0] rfl) h
set_option maxHeartbeats 2000000 in
set_option maxRecDepth 20000 in
theorem c_Chk_crc {l : Launch} {dC : Nat → ClassId} {dI : Nat → Nat → Nat} {cI : ClassId} {tb : Tbs} {a n : Nat → Nat} {Out_size : Int32} {Out_gathered : Int32} {Out_gatheredBits : Int32} {Chk_start : Int32} {ob : Nat → Int32} {ct : Nat → Int32} {x1 : Int32} {x2 : Int32} {post : Int32 → Unit → Prop} (h : wp_Chk_crc n ob ct x1 x2 post) : CtI classes dC dI cI tb l y_Chk_crc prog_2_method_5_code 5 .int ({ frames := 1, cells := 0, slots := 0, locals := 21 }) [.ref (a 4), .int x1, .int x2] [e_Out a Out_size Out_gathered Out_gatheredBits, e_Chk a Chk_start, e_ar a n cI 11 ob, e_ar a n cI 12 ct] (Unit) (fun _ => [e_Out a Out_size Out_gathered Out_gatheredBits, e_Chk a Chk_start, e_ar a n cI 11 ob, e_ar a n cI 12 ct]) post := by
  refine startI (by decide) (Nat.le_of_ble_eq_true rfl) ?_
  intro p e s m below meth c ls E hr hlk hnm hl hw
  have hl : lv_has ls 5 [(0, .ref (a 4)), (1, .int x1), (2, .int x2)] := hl
  generalize va_A [e_Out a Out_size Out_gathered Out_gatheredBits, e_Chk a Chk_start, e_ar a n cI 11 ob, e_ar a n cI 12 ct] s.heap.size = A at hw ⊢
  obtain ⟨hx, hb, hml, hown, hts⟩ := id E
  unfold wp_Chk_crc at h
  refine lv_iconst (v := (-1)) hx hb d_Chk_crc_0 (by decide) ?_
  refine lv_istore_n (lv' := [(3, .int ((-1))), (0, .ref (a 4)), (1, .int x1), (2, .int x2)]) hx hb d_Chk_crc_1 rfl hl (by decide) rfl (fun ls hl => ?_)
  refine lv_iload_n hx hb d_Chk_crc_2 rfl (lv_at hl 2 rfl) ?_
  refine lv_iconst (v := 0) hx hb d_Chk_crc_3 (by decide) ?_
  refine kmax E hl.1 tw330 tw60 tw35 tw61 (Nat.le_of_ble_eq_true rfl) (Nat.le_of_ble_eq_true rfl) (Nat.le_of_ble_eq_true rfl) (Nat.le_of_ble_eq_true rfl) d_Chk_crc_4 ?_
  refine lv_topi (fun z1 ez1 => ?_)
  have h := h z1 ez1
  refine lv_istore (lv' := [(4, .int z1), (3, .int ((-1))), (0, .ref (a 4)), (1, .int x1), (2, .int x2)]) hx hb d_Chk_crc_7 hl (by decide) rfl (fun ls hl => ?_)
  obtain ⟨N8, h⟩ := h
  exact s_Chk_crc_9 (a := a) (n := n) (tb := tb) E hr hlk  N8 ((-1)) z1 _ _ ls hw (lv_sub hl [2, 4, 1, 0] rfl) h
-- PicturePacker$Chunks.open(I)V
theorem d_Chk_open_0 : decode prog_2_method_3_code 0 = .ok (.aload_n 0, 1) := by decide +kernel
theorem d_Chk_open_1 : decode prog_2_method_3_code 1 = .ok (.aload_n 0, 1) := by decide +kernel
theorem d_Chk_open_2 : decode prog_2_method_3_code 2 = .ok (.getfield 7, 3) := by decide +kernel
theorem d_Chk_open_5 : decode prog_2_method_3_code 5 = .ok (.getfield 22, 3) := by decide +kernel
theorem d_Chk_open_8 : decode prog_2_method_3_code 8 = .ok (.putfield 28, 3) := by decide +kernel
theorem d_Chk_open_11 : decode prog_2_method_3_code 11 = .ok (.aload_n 0, 1) := by decide +kernel
theorem d_Chk_open_12 : decode prog_2_method_3_code 12 = .ok (.getfield 7, 3) := by decide +kernel
theorem d_Chk_open_15 : decode prog_2_method_3_code 15 = .ok (.iconst 0, 1) := by decide +kernel
theorem d_Chk_open_16 : decode prog_2_method_3_code 16 = .ok (.invokevirtual 31, 3) := by decide +kernel
theorem d_Chk_open_19 : decode prog_2_method_3_code 19 = .ok (.aload_n 0, 1) := by decide +kernel
theorem d_Chk_open_20 : decode prog_2_method_3_code 20 = .ok (.getfield 7, 3) := by decide +kernel
theorem d_Chk_open_23 : decode prog_2_method_3_code 23 = .ok (.iload_n 1, 1) := by decide +kernel
theorem d_Chk_open_24 : decode prog_2_method_3_code 24 = .ok (.invokevirtual 31, 3) := by decide +kernel
theorem d_Chk_open_27 : decode prog_2_method_3_code 27 = .ok (.return_, 1) := by decide +kernel
abbrev y_Chk_open : MethodName := ⟨"PicturePacker$Chunks", "open", "(I)V"⟩
def wp_Chk_open (n : Nat → Nat) (Out_size : Int32) (Chk_start : Int32) (ob : Nat → Int32) (x1 : Int32) (post : Int32 × Int32 × (Nat → Int32) → Prop) : Prop := wp_Out_addNumber n Out_size ob 0 (fun u1 => wp_Out_addNumber n u1.1 u1.2 x1 (fun u3 => post (u3.1, Out_size, u3.2)))
set_option maxHeartbeats 2000000 in
set_option maxRecDepth 20000 in
theorem c_Chk_open {l : Launch} {dC : Nat → ClassId} {dI : Nat → Nat → Nat} {cI : ClassId} {tb : Tbs} {a n : Nat → Nat} {Out_size : Int32} {Out_gathered : Int32} {Out_gatheredBits : Int32} {Chk_start : Int32} {ob : Nat → Int32} {x1 : Int32} {post : Int32 × Int32 × (Nat → Int32) → Prop} (h : wp_Chk_open n Out_size Chk_start ob x1 post) : CtV classes dC dI cI tb l y_Chk_open prog_2_method_3_code 2 ({ frames := 2, cells := 0, slots := 0, locals := 43 }) [.ref (a 4), .int x1] [e_Out a Out_size Out_gathered Out_gatheredBits, e_Chk a Chk_start, e_ar a n cI 11 ob] (Int32 × Int32 × (Nat → Int32)) (fun u => [e_Out a u.1 Out_gathered Out_gatheredBits, e_Chk a u.2.1, e_ar a n cI 11 u.2.2]) post := by
  refine startV (by decide) (Nat.le_of_ble_eq_true rfl) ?_
  intro p e s m below meth c ls E hr hlk hnm hl hw
  have hl : lv_has ls 2 [(0, .ref (a 4)), (1, .int x1)] := hl
  generalize va_A [e_Out a Out_size Out_gathered Out_gatheredBits, e_Chk a Chk_start, e_ar a n cI 11 ob] s.heap.size = A at hw ⊢
  obtain ⟨hx, hb, hml, hown, hts⟩ := id E
  unfold wp_Chk_open at h
  refine lv_aload_n hx hb d_Chk_open_0 rfl (lv_at hl 0 rfl) ?_
  refine lv_aload_n hx hb d_Chk_open_1 rfl (lv_at hl 0 rfl) ?_
  refine kget (v := .ref (a 3)) (T := F_Chk) E hw in_Chk rfl 1 0 rfl (by decide) tw144 rfl d_Chk_open_2 ?_
  refine kget (v := .int Out_size) (T := F_Out) E hw in_Out rfl 0 1 rfl (by decide) tw121 rfl d_Chk_open_5 ?_
  refine kput (v := .int Out_size) (ty := .int) (T := F_Chk) (ws' := [e_Out a Out_size Out_gathered Out_gatheredBits, e_Chk a Out_size, e_ar a n cI 11 ob]) E hw in_Chk t_Chk t_Chk_ok n_Chk rfl 1 2 rfl (by decide) tw146 rfl rfl rfl rfl (Nat.le_of_ble_eq_true rfl) rfl d_Chk_open_8 (fun H locs hw => ?_)
  refine lv_aload_n hx hb d_Chk_open_11 rfl (lv_at hl 0 rfl) ?_
  refine kget (v := .ref (a 3)) (T := F_Chk) E hw in_Chk rfl 1 0 rfl (by decide) tw144 rfl d_Chk_open_12 ?_
  refine lv_iconst (v := 0) hx hb d_Chk_open_15 (by decide) ?_
  refine kVv (y := y_Out_addNumber) (ws' := fun u1 => [e_Out a u1.1 Out_gathered Out_gatheredBits, e_Chk a Out_size, e_ar a n cI 11 u1.2]) (wr := [e_Chk a Out_size]) (As := [.int 0]) (rest := []) E hw (c_Out_addNumber (l := l) (dC := dC) (dI := dI) (cI := cI) (tb := tb) (a := a) (n := n) (Out_size := Out_size) (Out_gathered := Out_gathered) (Out_gatheredBits := Out_gatheredBits) (ob := ob) (x1 := 0) h) tw311 tw312 tw313 tw38 tw314 1 (by decide) ⟨Nat.le_of_ble_eq_true rfl, Nat.le_of_ble_eq_true rfl⟩ ⟨Nat.le_of_ble_eq_true rfl, Nat.le_of_ble_eq_true rfl⟩ ⟨rfl, rfl⟩ rfl rfl 0 rfl [0, 2] [1] [1, 0, 2] rfl rfl rfl rfl (by decide) rfl (fun _ => rfl) hl.1 rfl rfl (Nat.le_of_ble_eq_true rfl) d_Chk_open_16 (fun u1 H locs h hw => ?_)
  refine lv_aload_n hx hb d_Chk_open_19 rfl (lv_at hl 0 rfl) ?_
  refine kget (v := .ref (a 3)) (T := F_Chk) E hw in_Chk rfl 1 0 rfl (by decide) tw144 rfl d_Chk_open_20 ?_
  refine lv_iload_n hx hb d_Chk_open_23 rfl (lv_at hl 1 rfl) ?_
  refine kVv (y := y_Out_addNumber) (ws' := fun u3 => [e_Out a u3.1 Out_gathered Out_gatheredBits, e_Chk a Out_size, e_ar a n cI 11 u3.2]) (wr := [e_Chk a Out_size]) (As := [.int x1]) (rest := []) E hw (c_Out_addNumber (l := l) (dC := dC) (dI := dI) (cI := cI) (tb := tb) (a := a) (n := n) (Out_size := u1.1) (Out_gathered := Out_gathered) (Out_gatheredBits := Out_gatheredBits) (ob := u1.2) (x1 := x1) h) tw311 tw312 tw313 tw38 tw314 1 (by decide) ⟨Nat.le_of_ble_eq_true rfl, Nat.le_of_ble_eq_true rfl⟩ ⟨Nat.le_of_ble_eq_true rfl, Nat.le_of_ble_eq_true rfl⟩ ⟨rfl, rfl⟩ rfl rfl 0 rfl [0, 2] [1] [1, 0, 2] rfl rfl rfl rfl (by decide) rfl (fun _ => rfl) hl.1 rfl rfl (Nat.le_of_ble_eq_true rfl) d_Chk_open_24 (fun u3 H locs h hw => ?_)
  exact retV (out := fun u => [e_Out a u.1 Out_gathered Out_gatheredBits, e_Chk a u.2.1, e_ar a n cI 11 u.2.2]) (u := (u3.1, Out_size, u3.2)) E hr hlk hw h d_Chk_open_27
-- PicturePacker$Chunks.close()V
theorem d_Chk_close_0 : decode prog_2_method_4_code 0 = .ok (.aload_n 0, 1) := by decide +kernel
theorem d_Chk_close_1 : decode prog_2_method_4_code 1 = .ok (.getfield 7, 3) := by decide +kernel
theorem d_Chk_close_4 : decode prog_2_method_4_code 4 = .ok (.aload_n 0, 1) := by decide +kernel
theorem d_Chk_close_5 : decode prog_2_method_4_code 5 = .ok (.getfield 28, 3) := by decide +kernel
theorem d_Chk_close_8 : decode prog_2_method_4_code 8 = .ok (.aload_n 0, 1) := by decide +kernel
theorem d_Chk_close_9 : decode prog_2_method_4_code 9 = .ok (.getfield 7, 3) := by decide +kernel
theorem d_Chk_close_12 : decode prog_2_method_4_code 12 = .ok (.getfield 22, 3) := by decide +kernel
theorem d_Chk_close_15 : decode prog_2_method_4_code 15 = .ok (.aload_n 0, 1) := by decide +kernel
theorem d_Chk_close_16 : decode prog_2_method_4_code 16 = .ok (.getfield 28, 3) := by decide +kernel
theorem d_Chk_close_19 : decode prog_2_method_4_code 19 = .ok (.isub, 1) := by decide +kernel
theorem d_Chk_close_20 : decode prog_2_method_4_code 20 = .ok (.bipush 8, 2) := by decide +kernel
theorem d_Chk_close_22 : decode prog_2_method_4_code 22 = .ok (.isub, 1) := by decide +kernel
theorem d_Chk_close_23 : decode prog_2_method_4_code 23 = .ok (.invokevirtual 35, 3) := by decide +kernel
theorem d_Chk_close_26 : decode prog_2_method_4_code 26 = .ok (.aload_n 0, 1) := by decide +kernel
theorem d_Chk_close_27 : decode prog_2_method_4_code 27 = .ok (.getfield 7, 3) := by decide +kernel
theorem d_Chk_close_30 : decode prog_2_method_4_code 30 = .ok (.aload_n 0, 1) := by decide +kernel
theorem d_Chk_close_31 : decode prog_2_method_4_code 31 = .ok (.aload_n 0, 1) := by decide +kernel
theorem d_Chk_close_32 : decode prog_2_method_4_code 32 = .ok (.getfield 28, 3) := by decide +kernel
theorem d_Chk_close_35 : decode prog_2_method_4_code 35 = .ok (.iconst 4, 1) := by decide +kernel
theorem d_Chk_close_36 : decode prog_2_method_4_code 36 = .ok (.iadd, 1) := by decide +kernel
theorem d_Chk_close_37 : decode prog_2_method_4_code 37 = .ok (.aload_n 0, 1) := by decide +kernel
theorem d_Chk_close_38 : decode prog_2_method_4_code 38 = .ok (.getfield 7, 3) := by decide +kernel
theorem d_Chk_close_41 : decode prog_2_method_4_code 41 = .ok (.getfield 22, 3) := by decide +kernel
theorem d_Chk_close_44 : decode prog_2_method_4_code 44 = .ok (.invokevirtual 39, 3) := by decide +kernel
theorem d_Chk_close_47 : decode prog_2_method_4_code 47 = .ok (.invokevirtual 31, 3) := by decide +kernel
theorem d_Chk_close_50 : decode prog_2_method_4_code 50 = .ok (.return_, 1) := by decide +kernel
abbrev y_Chk_close : MethodName := ⟨"PicturePacker$Chunks", "close", "()V"⟩
def wp_Chk_close (n : Nat → Nat) (Out_size : Int32) (Chk_start : Int32) (ob : Nat → Int32) (ct : Nat → Int32) (post : Int32 × (Nat → Int32) → Prop) : Prop := wp_Out_changeNumber n ob Chk_start ((Out_size - Chk_start) - 8) (fun u1 => wp_Chk_crc n u1 ct (Chk_start + 4) Out_size (fun r4 _ => wp_Out_addNumber n Out_size u1 r4 (fun u5 => post (u5.1, u5.2))))
set_option maxHeartbeats 2000000 in
set_option maxRecDepth 20000 in
theorem c_Chk_close {l : Launch} {dC : Nat → ClassId} {dI : Nat → Nat → Nat} {cI : ClassId} {tb : Tbs} {a n : Nat → Nat} {Out_size : Int32} {Out_gathered : Int32} {Out_gatheredBits : Int32} {Chk_start : Int32} {ob : Nat → Int32} {ct : Nat → Int32} {post : Int32 × (Nat → Int32) → Prop} (h : wp_Chk_close n Out_size Chk_start ob ct post) : CtV classes dC dI cI tb l y_Chk_close prog_2_method_4_code 1 ({ frames := 2, cells := 0, slots := 0, locals := 45 }) [.ref (a 4)] [e_Out a Out_size Out_gathered Out_gatheredBits, e_Chk a Chk_start, e_ar a n cI 11 ob, e_ar a n cI 12 ct] (Int32 × (Nat → Int32)) (fun u => [e_Out a u.1 Out_gathered Out_gatheredBits, e_Chk a Chk_start, e_ar a n cI 11 u.2, e_ar a n cI 12 ct]) post := by
  refine startV (by decide) (Nat.le_of_ble_eq_true rfl) ?_
  intro p e s m below meth c ls E hr hlk hnm hl hw
  have hl : lv_has ls 1 [(0, .ref (a 4))] := hl
  generalize va_A [e_Out a Out_size Out_gathered Out_gatheredBits, e_Chk a Chk_start, e_ar a n cI 11 ob, e_ar a n cI 12 ct] s.heap.size = A at hw ⊢
  obtain ⟨hx, hb, hml, hown, hts⟩ := id E
  unfold wp_Chk_close at h
  refine lv_aload_n hx hb d_Chk_close_0 rfl (lv_at hl 0 rfl) ?_
  refine kget (v := .ref (a 3)) (T := F_Chk) E hw in_Chk rfl 1 0 rfl (by decide) tw144 rfl d_Chk_close_1 ?_
  refine lv_aload_n hx hb d_Chk_close_4 rfl (lv_at hl 0 rfl) ?_
  refine kget (v := .int Chk_start) (T := F_Chk) E hw in_Chk rfl 1 2 rfl (by decide) tw146 rfl d_Chk_close_5 ?_
  refine lv_aload_n hx hb d_Chk_close_8 rfl (lv_at hl 0 rfl) ?_
  refine kget (v := .ref (a 3)) (T := F_Chk) E hw in_Chk rfl 1 0 rfl (by decide) tw144 rfl d_Chk_close_9 ?_
  refine kget (v := .int Out_size) (T := F_Out) E hw in_Out rfl 0 1 rfl (by decide) tw121 rfl d_Chk_close_12 ?_
  refine lv_aload_n hx hb d_Chk_close_15 rfl (lv_at hl 0 rfl) ?_
  refine kget (v := .int Chk_start) (T := F_Chk) E hw in_Chk rfl 1 2 rfl (by decide) tw146 rfl d_Chk_close_16 ?_
  refine lv_isub hx hb d_Chk_close_19 ?_
  refine lv_bipush (v := 8) hx hb d_Chk_close_20 (by decide) ?_
  refine lv_isub hx hb d_Chk_close_22 ?_
  refine kVv (y := y_Out_changeNumber) (ws' := fun u1 => [e_Out a Out_size Out_gathered Out_gatheredBits, e_Chk a Chk_start, e_ar a n cI 11 u1, e_ar a n cI 12 ct]) (wr := [e_Chk a Chk_start, e_ar a n cI 12 ct]) (As := [.int Chk_start, .int ((Out_size - Chk_start) - 8)]) (rest := []) E hw (c_Out_changeNumber (l := l) (dC := dC) (dI := dI) (cI := cI) (tb := tb) (a := a) (n := n) (Out_size := Out_size) (Out_gathered := Out_gathered) (Out_gatheredBits := Out_gatheredBits) (ob := ob) (x1 := Chk_start) (x2 := (Out_size - Chk_start) - 8) h) tw322 tw323 tw324 tw38 tw325 2 (by decide) ⟨Nat.le_of_ble_eq_true rfl, Nat.le_of_ble_eq_true rfl⟩ ⟨Nat.le_of_ble_eq_true rfl, Nat.le_of_ble_eq_true rfl⟩ ⟨rfl, rfl⟩ rfl rfl 0 rfl [0, 2] [1, 3] [2, 0, 3, 1] rfl rfl rfl rfl (by decide) rfl (fun _ => rfl) hl.1 rfl rfl (Nat.le_of_ble_eq_true rfl) d_Chk_close_23 (fun u1 H locs h hw => ?_)
  refine lv_aload_n hx hb d_Chk_close_26 rfl (lv_at hl 0 rfl) ?_
  refine kget (v := .ref (a 3)) (T := F_Chk) E hw in_Chk rfl 1 0 rfl (by decide) tw144 rfl d_Chk_close_27 ?_
  refine lv_aload_n hx hb d_Chk_close_30 rfl (lv_at hl 0 rfl) ?_
  refine lv_aload_n hx hb d_Chk_close_31 rfl (lv_at hl 0 rfl) ?_
  refine kget (v := .int Chk_start) (T := F_Chk) E hw in_Chk rfl 1 2 rfl (by decide) tw146 rfl d_Chk_close_32 ?_
  refine lv_iconst (v := 4) hx hb d_Chk_close_35 (by decide) ?_
  refine lv_iadd hx hb d_Chk_close_36 ?_
  refine lv_aload_n hx hb d_Chk_close_37 rfl (lv_at hl 0 rfl) ?_
  refine kget (v := .ref (a 3)) (T := F_Chk) E hw in_Chk rfl 1 0 rfl (by decide) tw144 rfl d_Chk_close_38 ?_
  refine kget (v := .int Out_size) (T := F_Out) E hw in_Out rfl 0 1 rfl (by decide) tw121 rfl d_Chk_close_41 ?_
  refine kVi (y := y_Chk_crc) (ws' := fun _ => [e_Out a Out_size Out_gathered Out_gatheredBits, e_Chk a Chk_start, e_ar a n cI 11 u1, e_ar a n cI 12 ct]) (wr := []) (As := [.int (Chk_start + 4), .int Out_size]) (rest := [.ref (a 3)]) E hw (c_Chk_crc (l := l) (dC := dC) (dI := dI) (cI := cI) (tb := tb) (a := a) (n := n) (Out_size := Out_size) (Out_gathered := Out_gathered) (Out_gatheredBits := Out_gatheredBits) (Chk_start := Chk_start) (ob := u1) (ct := ct) (x1 := Chk_start + 4) (x2 := Out_size) h) tw326 tw328 tw4 tw39 tw329 2 (by decide) ⟨Nat.le_of_ble_eq_true rfl, Nat.le_of_ble_eq_true rfl⟩ ⟨Nat.le_of_ble_eq_true rfl, Nat.le_of_ble_eq_true rfl⟩ ⟨rfl, rfl⟩ rfl rfl 1 rfl [0, 1, 2, 3] [] [0, 1, 2, 3] rfl rfl rfl rfl (by decide) rfl (fun _ => rfl) hl.1 rfl rfl (Nat.le_of_ble_eq_true rfl) d_Chk_close_44 (fun r4 u3 H locs h hw => ?_)
  refine kVv (y := y_Out_addNumber) (ws' := fun u5 => [e_Out a u5.1 Out_gathered Out_gatheredBits, e_Chk a Chk_start, e_ar a n cI 11 u5.2, e_ar a n cI 12 ct]) (wr := [e_Chk a Chk_start, e_ar a n cI 12 ct]) (As := [.int r4]) (rest := []) E hw (c_Out_addNumber (l := l) (dC := dC) (dI := dI) (cI := cI) (tb := tb) (a := a) (n := n) (Out_size := Out_size) (Out_gathered := Out_gathered) (Out_gatheredBits := Out_gatheredBits) (ob := u1) (x1 := r4) h) tw311 tw312 tw313 tw38 tw314 1 (by decide) ⟨Nat.le_of_ble_eq_true rfl, Nat.le_of_ble_eq_true rfl⟩ ⟨Nat.le_of_ble_eq_true rfl, Nat.le_of_ble_eq_true rfl⟩ ⟨rfl, rfl⟩ rfl rfl 0 rfl [0, 2] [1, 3] [2, 0, 3, 1] rfl rfl rfl rfl (by decide) rfl (fun _ => rfl) hl.1 rfl rfl (Nat.le_of_ble_eq_true rfl) d_Chk_close_47 (fun u5 H locs h hw => ?_)
  exact retV (out := fun u => [e_Out a u.1 Out_gathered Out_gatheredBits, e_Chk a Chk_start, e_ar a n cI 11 u.2, e_ar a n cI 12 ct]) (u := (u5.1, u5.2)) E hr hlk hw h d_Chk_close_50
