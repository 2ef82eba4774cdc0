-- PicturePackerModel.length(I)V
theorem d_Mod_length_0 : decode prog_9_method_20_code 0 = .ok (.iload_n 1, 1) := by decide +kernel
theorem d_Mod_length_1 : decode prog_9_method_20_code 1 = .ok (.sipush 258, 3) := by decide +kernel
theorem d_Mod_length_4 : decode prog_9_method_20_code 4 = .ok (.if_icmp .ne 11, 3) := by decide +kernel
theorem d_Mod_length_7 : decode prog_9_method_20_code 7 = .ok (.aload_n 0, 1) := by decide +kernel
theorem d_Mod_length_8 : decode prog_9_method_20_code 8 = .ok (.sipush 285, 3) := by decide +kernel
theorem d_Mod_length_11 : decode prog_9_method_20_code 11 = .ok (.invokevirtual 72, 3) := by decide +kernel
theorem d_Mod_length_14 : decode prog_9_method_20_code 14 = .ok (.return_, 1) := by decide +kernel
theorem d_Mod_length_15 : decode prog_9_method_20_code 15 = .ok (.iload_n 1, 1) := by decide +kernel
theorem d_Mod_length_16 : decode prog_9_method_20_code 16 = .ok (.bipush 11, 2) := by decide +kernel
theorem d_Mod_length_18 : decode prog_9_method_20_code 18 = .ok (.if_icmp .ge 15, 3) := by decide +kernel
theorem d_Mod_length_21 : decode prog_9_method_20_code 21 = .ok (.aload_n 0, 1) := by decide +kernel
theorem d_Mod_length_22 : decode prog_9_method_20_code 22 = .ok (.sipush 257, 3) := by decide +kernel
theorem d_Mod_length_25 : decode prog_9_method_20_code 25 = .ok (.iload_n 1, 1) := by decide +kernel
theorem d_Mod_length_26 : decode prog_9_method_20_code 26 = .ok (.iadd, 1) := by decide +kernel
theorem d_Mod_length_27 : decode prog_9_method_20_code 27 = .ok (.iconst 3, 1) := by decide +kernel
theorem d_Mod_length_28 : decode prog_9_method_20_code 28 = .ok (.isub, 1) := by decide +kernel
theorem d_Mod_length_29 : decode prog_9_method_20_code 29 = .ok (.invokevirtual 72, 3) := by decide +kernel
theorem d_Mod_length_32 : decode prog_9_method_20_code 32 = .ok (.return_, 1) := by decide +kernel
theorem d_Mod_length_33 : decode prog_9_method_20_code 33 = .ok (.iconst 1, 1) := by decide +kernel
theorem d_Mod_length_34 : decode prog_9_method_20_code 34 = .ok (.istore_n 2, 1) := by decide +kernel
theorem d_Mod_length_35 : decode prog_9_method_20_code 35 = .ok (.bipush 11, 2) := by decide +kernel
theorem d_Mod_length_37 : decode prog_9_method_20_code 37 = .ok (.istore_n 3, 1) := by decide +kernel
theorem d_Mod_length_38 : decode prog_9_method_20_code 38 = .ok (.sipush 265, 3) := by decide +kernel
theorem d_Mod_length_41 : decode prog_9_method_20_code 41 = .ok (.istore 4, 2) := by decide +kernel
theorem d_Mod_length_43 : decode prog_9_method_20_code 43 = .ok (.iload_n 1, 1) := by decide +kernel
theorem d_Mod_length_44 : decode prog_9_method_20_code 44 = .ok (.iload_n 3, 1) := by decide +kernel
theorem d_Mod_length_45 : decode prog_9_method_20_code 45 = .ok (.iconst 4, 1) := by decide +kernel
theorem d_Mod_length_46 : decode prog_9_method_20_code 46 = .ok (.iconst 1, 1) := by decide +kernel
theorem d_Mod_length_47 : decode prog_9_method_20_code 47 = .ok (.iload_n 2, 1) := by decide +kernel
theorem d_Mod_length_48 : decode prog_9_method_20_code 48 = .ok (.ishl, 1) := by decide +kernel
theorem d_Mod_length_49 : decode prog_9_method_20_code 49 = .ok (.imul, 1) := by decide +kernel
theorem d_Mod_length_50 : decode prog_9_method_20_code 50 = .ok (.iadd, 1) := by decide +kernel
theorem d_Mod_length_51 : decode prog_9_method_20_code 51 = .ok (.if_icmp .lt 20, 3) := by decide +kernel
theorem d_Mod_length_54 : decode prog_9_method_20_code 54 = .ok (.iload_n 3, 1) := by decide +kernel
theorem d_Mod_length_55 : decode prog_9_method_20_code 55 = .ok (.iconst 4, 1) := by decide +kernel
theorem d_Mod_length_56 : decode prog_9_method_20_code 56 = .ok (.iconst 1, 1) := by decide +kernel
theorem d_Mod_length_57 : decode prog_9_method_20_code 57 = .ok (.iload_n 2, 1) := by decide +kernel
theorem d_Mod_length_58 : decode prog_9_method_20_code 58 = .ok (.ishl, 1) := by decide +kernel
theorem d_Mod_length_59 : decode prog_9_method_20_code 59 = .ok (.imul, 1) := by decide +kernel
theorem d_Mod_length_60 : decode prog_9_method_20_code 60 = .ok (.iadd, 1) := by decide +kernel
theorem d_Mod_length_61 : decode prog_9_method_20_code 61 = .ok (.istore_n 3, 1) := by decide +kernel
theorem d_Mod_length_62 : decode prog_9_method_20_code 62 = .ok (.iinc 4 4, 3) := by decide +kernel
theorem d_Mod_length_65 : decode prog_9_method_20_code 65 = .ok (.iinc 2 1, 3) := by decide +kernel
theorem d_Mod_length_68 : decode prog_9_method_20_code 68 = .ok (.goto (-25), 3) := by decide +kernel
theorem d_Mod_length_71 : decode prog_9_method_20_code 71 = .ok (.aload_n 0, 1) := by decide +kernel
theorem d_Mod_length_72 : decode prog_9_method_20_code 72 = .ok (.iload 4, 2) := by decide +kernel
theorem d_Mod_length_74 : decode prog_9_method_20_code 74 = .ok (.iload_n 1, 1) := by decide +kernel
theorem d_Mod_length_75 : decode prog_9_method_20_code 75 = .ok (.iload_n 3, 1) := by decide +kernel
theorem d_Mod_length_76 : decode prog_9_method_20_code 76 = .ok (.isub, 1) := by decide +kernel
theorem d_Mod_length_77 : decode prog_9_method_20_code 77 = .ok (.iload_n 2, 1) := by decide +kernel
theorem d_Mod_length_78 : decode prog_9_method_20_code 78 = .ok (.ishr, 1) := by decide +kernel
theorem d_Mod_length_79 : decode prog_9_method_20_code 79 = .ok (.iadd, 1) := by decide +kernel
theorem d_Mod_length_80 : decode prog_9_method_20_code 80 = .ok (.invokevirtual 72, 3) := by decide +kernel
theorem d_Mod_length_83 : decode prog_9_method_20_code 83 = .ok (.aload_n 0, 1) := by decide +kernel
theorem d_Mod_length_84 : decode prog_9_method_20_code 84 = .ok (.iload_n 1, 1) := by decide +kernel
theorem d_Mod_length_85 : decode prog_9_method_20_code 85 = .ok (.iload_n 3, 1) := by decide +kernel
theorem d_Mod_length_86 : decode prog_9_method_20_code 86 = .ok (.isub, 1) := by decide +kernel
theorem d_Mod_length_87 : decode prog_9_method_20_code 87 = .ok (.iconst 1, 1) := by decide +kernel
theorem d_Mod_length_88 : decode prog_9_method_20_code 88 = .ok (.iload_n 2, 1) := by decide +kernel
theorem d_Mod_length_89 : decode prog_9_method_20_code 89 = .ok (.ishl, 1) := by decide +kernel
theorem d_Mod_length_90 : decode prog_9_method_20_code 90 = .ok (.iconst 1, 1) := by decide +kernel
theorem d_Mod_length_91 : decode prog_9_method_20_code 91 = .ok (.isub, 1) := by decide +kernel
theorem d_Mod_length_92 : decode prog_9_method_20_code 92 = .ok (.iand, 1) := by decide +kernel
theorem d_Mod_length_93 : decode prog_9_method_20_code 93 = .ok (.iload_n 2, 1) := by decide +kernel
theorem d_Mod_length_94 : decode prog_9_method_20_code 94 = .ok (.invokevirtual 75, 3) := by decide +kernel
theorem d_Mod_length_97 : decode prog_9_method_20_code 97 = .ok (.return_, 1) := by decide +kernel
abbrev y_Mod_length : MethodName := ⟨"PicturePackerModel", "length", "(I)V"⟩
def wp_Mod_length_43 (n : Nat → Nat) (x1 : Int32) (post : Int32 × Int32 × (Nat → Int32) → Prop) : Nat → Int32 → Int32 → (Nat → Int32) → Int32 → Int32 → Int32 → Prop
  | 0 => fun _ _ _ _ _ _ => False
  | N + 1 => fun Mod_size Mod_bit mf y2 y3 y4 => ((x1 : Int32) < (y3 + (4 * ((1 : Int32) <<< (y2 &&& 31)))) → (wp_Mod_sign n Mod_size Mod_bit mf (y4 + ((x1 - y3 : Int32) >>> (y2 &&& 31))) (fun u4 => wp_Mod_lowest n u4.1 u4.2.1 u4.2.2 ((x1 - y3) &&& (((1 : Int32) <<< (y2 &&& 31)) - 1)) y2 (fun u6 => post (u6.1, u6.2.1, u6.2.2))))) ∧ (¬ ((x1 : Int32) < (y3 + (4 * ((1 : Int32) <<< (y2 &&& 31))))) → (∀ z8 : Int32, z8 = (y3 + (4 * ((1 : Int32) <<< (y2 &&& 31)))) → (∀ z9 : Int32, z9 = (y4 + 4) → (∀ z10 : Int32, z10 = (y2 + 1) → (wp_Mod_length_43 n x1 post N Mod_size Mod_bit mf z10 z8 z9)))))
def wp_Mod_length (n : Nat → Nat) (Mod_size : Int32) (Mod_bit : Int32) (mf : Nat → Int32) (x1 : Int32) (post : Int32 × Int32 × (Nat → Int32) → Prop) : Prop := (¬ (x1 : Int32) = 258 → (((11 : Int32) ≤ x1 → (∃ N11 : Nat, wp_Mod_length_43 n x1 post N11 Mod_size Mod_bit mf 1 11 265)) ∧ (¬ ((11 : Int32) ≤ x1) → (wp_Mod_sign n Mod_size Mod_bit mf ((257 + x1) - 3) (fun u12 => post (u12.1, u12.2.1, u12.2.2)))))) ∧ ((x1 : Int32) = 258 → (wp_Mod_sign n Mod_size Mod_bit mf 285 (fun u14 => post (u14.1, u14.2.1, u14.2.2))))
set_option maxHeartbeats 2000000 in
set_option maxRecDepth 20000 in
theorem s_Mod_length_43 {l : Launch} {dC : Nat → ClassId} {dI : Nat → Nat → Nat} {cI : ClassId} {tb : Tbs} {a n : Nat → Nat} {p : Program} {e : Env} {s : State} {m : MethodId} {args : Array Value} {below : List Frame} {meth : Method} {c : Code} {A : Nat → Prop} (E : CallFix p m c prog_9_method_20_code 5 s args TBL "PicturePackerModel") (hr : meth.sig.returnType = none) (hlk : meth.locks = false) {Mod_thrown : Int32} {Mod_width : Int32} {Mod_height : Int32} {Mod_many : Int32} {Mod_single : Int32} {Mod_runs : Int32} {Mod_longest : Int32} {x1 : Int32} {post : Int32 × Int32 × (Nat → Int32) → Prop} : ∀ (N : Nat) (Mod_size : Int32) (Mod_bit : Int32) (mf : Nat → Int32) (y2 : Int32) (y3 : Int32) (y4 : Int32) (H : Heap) (locs : List Loc) (ls : Array Slot), Wl classes dC dI cI tb A s H locs [e_Mod a Mod_thrown Mod_width Mod_height Mod_many Mod_size Mod_bit Mod_single Mod_runs Mod_longest, e_ar a n cI 17 mf] → lv_has ls 5 [(0, .ref (a 7)), (1, .int x1), (2, .int y2), (3, .int y3), (4, .int y4)] → wp_Mod_length_43 n x1 post N Mod_size Mod_bit mf y2 y3 y4 → W p l e ({ frames := 4, cells := 0, slots := 0, locals := 86 }) s m args below meth c H locs 0 0 (MQ below (va_Qv post (fun u => End0 classes dC dI cI A [e_Mod a Mod_thrown Mod_width Mod_height Mod_many u.1 u.2.1 Mod_single Mod_runs Mod_longest, e_ar a n cI 17 u.2.2]) A) args s 0 0 A) (F0 m 43 ls []) := by
  obtain ⟨hx, hb, hml, hown, hts⟩ := id E
  intro N
  induction N with
  | zero =>
    intro _ _ _ _ _ _ H locs ls hw hl h
    exact absurd h id
  | succ N ih =>
    intro Mod_size Mod_bit mf y2 y3 y4 H locs ls hw hl h
    unfold wp_Mod_length_43 at h
    refine lv_iload_n hx hb d_Mod_length_43 rfl (lv_at hl 1 rfl) ?_
    refine lv_iload_n hx hb d_Mod_length_44 rfl (lv_at hl 3 rfl) ?_
    refine lv_iconst (v := 4) hx hb d_Mod_length_45 (by decide) ?_
    refine lv_iconst (v := 1) hx hb d_Mod_length_46 (by decide) ?_
    refine lv_iload_n hx hb d_Mod_length_47 rfl (lv_at hl 2 rfl) ?_
    refine lv_ishl hx hb d_Mod_length_48 ?_
    refine lv_imul hx hb d_Mod_length_49 ?_
    refine lv_iadd hx hb d_Mod_length_50 ?_
    refine lv_icmp_lt (tgt := 71) hx hb d_Mod_length_51 (by decide) (fun c3 => ?_) (fun c3 => ?_)
    · have h := h.1 c3
      refine lv_aload_n hx hb d_Mod_length_71 rfl (lv_at hl 0 rfl) ?_
      refine lv_iload hx hb d_Mod_length_72 (lv_at hl 4 rfl) ?_
      refine lv_iload_n hx hb d_Mod_length_74 rfl (lv_at hl 1 rfl) ?_
      refine lv_iload_n hx hb d_Mod_length_75 rfl (lv_at hl 3 rfl) ?_
      refine lv_isub hx hb d_Mod_length_76 ?_
      refine lv_iload_n hx hb d_Mod_length_77 rfl (lv_at hl 2 rfl) ?_
      refine lv_ishr hx hb d_Mod_length_78 ?_
      refine lv_iadd hx hb d_Mod_length_79 ?_
      refine kVv (y := y_Mod_sign) (ws' := fun u4 => [e_Mod a Mod_thrown Mod_width Mod_height Mod_many u4.1 u4.2.1 Mod_single Mod_runs Mod_longest, e_ar a n cI 17 u4.2.2]) (wr := []) (As := [.int (y4 + ((x1 - y3 : Int32) >>> (y2 &&& 31)))]) (rest := []) E hw (c_Mod_sign (l := l) (dC := dC) (dI := dI) (cI := cI) (tb := tb) (a := a) (n := n) (Mod_thrown := Mod_thrown) (Mod_width := Mod_width) (Mod_height := Mod_height) (Mod_many := Mod_many) (Mod_size := Mod_size) (Mod_bit := Mod_bit) (Mod_single := Mod_single) (Mod_runs := Mod_runs) (Mod_longest := Mod_longest) (mf := mf) (x1 := y4 + ((x1 - y3 : Int32) >>> (y2 &&& 31))) h) tw540 tw542 tw27 tw42 tw543 1 (by decide) ⟨Nat.le_of_ble_eq_true rfl, Nat.le_of_ble_eq_true rfl⟩ ⟨Nat.le_of_ble_eq_true rfl, Nat.le_of_ble_eq_true rfl⟩ ⟨rfl, rfl⟩ rfl rfl 0 rfl [0, 1] [] [0, 1] rfl rfl rfl rfl (by decide) rfl (fun _ => rfl) hl.1 rfl rfl (Nat.le_of_ble_eq_true rfl) d_Mod_length_80 (fun u4 H locs h hw => ?_)
      refine lv_aload_n hx hb d_Mod_length_83 rfl (lv_at hl 0 rfl) ?_
      refine lv_iload_n hx hb d_Mod_length_84 rfl (lv_at hl 1 rfl) ?_
      refine lv_iload_n hx hb d_Mod_length_85 rfl (lv_at hl 3 rfl) ?_
      refine lv_isub hx hb d_Mod_length_86 ?_
      refine lv_iconst (v := 1) hx hb d_Mod_length_87 (by decide) ?_
      refine lv_iload_n hx hb d_Mod_length_88 rfl (lv_at hl 2 rfl) ?_
      refine lv_ishl hx hb d_Mod_length_89 ?_
      refine lv_iconst (v := 1) hx hb d_Mod_length_90 (by decide) ?_
      refine lv_isub hx hb d_Mod_length_91 ?_
      refine lv_iand hx hb d_Mod_length_92 ?_
      refine lv_iload_n hx hb d_Mod_length_93 rfl (lv_at hl 2 rfl) ?_
      refine kVv (y := y_Mod_lowest) (ws' := fun u6 => [e_Mod a Mod_thrown Mod_width Mod_height Mod_many u6.1 u6.2.1 Mod_single Mod_runs Mod_longest, e_ar a n cI 17 u6.2.2]) (wr := []) (As := [.int ((x1 - y3) &&& (((1 : Int32) <<< (y2 &&& 31)) - 1)), .int y2]) (rest := []) E hw (c_Mod_lowest (l := l) (dC := dC) (dI := dI) (cI := cI) (tb := tb) (a := a) (n := n) (Mod_thrown := Mod_thrown) (Mod_width := Mod_width) (Mod_height := Mod_height) (Mod_many := Mod_many) (Mod_size := u4.1) (Mod_bit := u4.2.1) (Mod_single := Mod_single) (Mod_runs := Mod_runs) (Mod_longest := Mod_longest) (mf := u4.2.2) (x1 := (x1 - y3) &&& (((1 : Int32) <<< (y2 &&& 31)) - 1)) (x2 := y2) h) tw548 tw550 tw29 tw42 tw551 2 (by decide) ⟨Nat.le_of_ble_eq_true rfl, Nat.le_of_ble_eq_true rfl⟩ ⟨Nat.le_of_ble_eq_true rfl, Nat.le_of_ble_eq_true rfl⟩ ⟨rfl, rfl⟩ rfl rfl 0 rfl [0, 1] [] [0, 1] rfl rfl rfl rfl (by decide) rfl (fun _ => rfl) hl.1 rfl rfl (Nat.le_of_ble_eq_true rfl) d_Mod_length_94 (fun u6 H locs h hw => ?_)
      exact retV (out := fun u => [e_Mod a Mod_thrown Mod_width Mod_height Mod_many u.1 u.2.1 Mod_single Mod_runs Mod_longest, e_ar a n cI 17 u.2.2]) (u := (u6.1, u6.2.1, u6.2.2)) E hr hlk hw h d_Mod_length_97
    · have h := h.2 c3
      refine lv_iload_n hx hb d_Mod_length_54 rfl (lv_at hl 3 rfl) ?_
      refine lv_iconst (v := 4) hx hb d_Mod_length_55 (by decide) ?_
      refine lv_iconst (v := 1) hx hb d_Mod_length_56 (by decide) ?_
      refine lv_iload_n hx hb d_Mod_length_57 rfl (lv_at hl 2 rfl) ?_
      refine lv_ishl hx hb d_Mod_length_58 ?_
      refine lv_imul hx hb d_Mod_length_59 ?_
      refine lv_iadd hx hb d_Mod_length_60 ?_
      refine lv_topi (fun z8 ez8 => ?_)
      have h := h z8 ez8
      refine lv_istore_n (lv' := [(3, .int z8), (0, .ref (a 7)), (1, .int x1), (2, .int y2), (4, .int y4)]) hx hb d_Mod_length_61 rfl hl (by decide) rfl (fun ls hl => ?_)
      obtain ⟨z9, ez9⟩ : ∃ z : Int32, z = y4 + 4 := ⟨_, rfl⟩
      have h := h z9 ez9
      refine lv_iinc (v := z9) (lv' := [(4, .int z9), (3, .int z8), (0, .ref (a 7)), (1, .int x1), (2, .int y2)]) hx hb d_Mod_length_62 hl (k := 4) rfl (by rw [ez9]; exact congrArg (y4 + ·) (by decide)) (by decide) rfl (fun ls hl => ?_)
      obtain ⟨z10, ez10⟩ : ∃ z : Int32, z = y2 + 1 := ⟨_, rfl⟩
      have h := h z10 ez10
      refine lv_iinc (v := z10) (lv' := [(2, .int z10), (4, .int z9), (3, .int z8), (0, .ref (a 7)), (1, .int x1)]) hx hb d_Mod_length_65 hl (k := 4) rfl (by rw [ez10]; exact congrArg (y2 + ·) (by decide)) (by decide) rfl (fun ls hl => ?_)
      refine lv_goto (tgt := 43) hx hb d_Mod_length_68 (by decide) ?_
      exact ih Mod_size Mod_bit mf z10 z8 z9 _ _ ls hw (lv_sub hl [3, 4, 0, 2, 1] rfl) h
set_option maxHeartbeats 2000000 in
set_option maxRecDepth 20000 in
theorem c_Mod_length {l : Launch} {dC : Nat → ClassId} {dI : Nat → Nat → Nat} {cI : ClassId} {tb : Tbs} {a n : Nat → Nat} {Mod_thrown : Int32} {Mod_width : Int32} {Mod_height : Int32} {Mod_many : Int32} {Mod_size : Int32} {Mod_bit : Int32} {Mod_single : Int32} {Mod_runs : Int32} {Mod_longest : Int32} {mf : Nat → Int32} {x1 : Int32} {post : Int32 × Int32 × (Nat → Int32) → Prop} (h : wp_Mod_length n Mod_size Mod_bit mf x1 post) : CtV classes dC dI cI tb l y_Mod_length prog_9_method_20_code 5 ({ frames := 4, cells := 0, slots := 0, locals := 86 }) [.ref (a 7), .int x1] [e_Mod a Mod_thrown Mod_width Mod_height Mod_many Mod_size Mod_bit Mod_single Mod_runs Mod_longest, e_ar a n cI 17 mf] (Int32 × Int32 × (Nat → Int32)) (fun u => [e_Mod a Mod_thrown Mod_width Mod_height Mod_many u.1 u.2.1 Mod_single Mod_runs Mod_longest, e_ar a n cI 17 u.2.2]) post := by
  refine startV (by decide) (Nat.le_of_ble_eq_true rfl) ?_
  intro p e s m below meth c ls E hr hlk hnm hl hw
  have hl : lv_has ls 5 [(0, .ref (a 7)), (1, .int x1)] := hl
  generalize va_A [e_Mod a Mod_thrown Mod_width Mod_height Mod_many Mod_size Mod_bit Mod_single Mod_runs Mod_longest, e_ar a n cI 17 mf] s.heap.size = A at hw ⊢
  obtain ⟨hx, hb, hml, hown, hts⟩ := id E
  unfold wp_Mod_length at h
  refine lv_iload_n hx hb d_Mod_length_0 rfl (lv_at hl 1 rfl) ?_
  refine lv_sipush (v := 258) hx hb d_Mod_length_1 (by decide) ?_
  refine lv_icmp_ne (tgt := 15) hx hb d_Mod_length_4 (by decide) (fun c1 => ?_) (fun c1 => ?_)
  · have h := h.1 c1
    refine lv_iload_n hx hb d_Mod_length_15 rfl (lv_at hl 1 rfl) ?_
    refine lv_bipush (v := 11) hx hb d_Mod_length_16 (by decide) ?_
    refine lv_icmp_ge (tgt := 33) hx hb d_Mod_length_18 (by decide) (fun c2 => ?_) (fun c2 => ?_)
    · have h := h.1 c2
      refine lv_iconst (v := 1) hx hb d_Mod_length_33 (by decide) ?_
      refine lv_istore_n (lv' := [(2, .int 1), (0, .ref (a 7)), (1, .int x1)]) hx hb d_Mod_length_34 rfl hl (by decide) rfl (fun ls hl => ?_)
      refine lv_bipush (v := 11) hx hb d_Mod_length_35 (by decide) ?_
      refine lv_istore_n (lv' := [(3, .int 11), (2, .int 1), (0, .ref (a 7)), (1, .int x1)]) hx hb d_Mod_length_37 rfl hl (by decide) rfl (fun ls hl => ?_)
      refine lv_sipush (v := 265) hx hb d_Mod_length_38 (by decide) ?_
      refine lv_istore (lv' := [(4, .int 265), (3, .int 11), (2, .int 1), (0, .ref (a 7)), (1, .int x1)]) hx hb d_Mod_length_41 hl (by decide) rfl (fun ls hl => ?_)
      obtain ⟨N11, h⟩ := h
      exact s_Mod_length_43 (a := a) (n := n) (tb := tb) E hr hlk  N11 Mod_size Mod_bit mf 1 11 265 _ _ ls hw (lv_sub hl [3, 4, 2, 1, 0] rfl) h
    · have h := h.2 c2
      refine lv_aload_n hx hb d_Mod_length_21 rfl (lv_at hl 0 rfl) ?_
      refine lv_sipush (v := 257) hx hb d_Mod_length_22 (by decide) ?_
      refine lv_iload_n hx hb d_Mod_length_25 rfl (lv_at hl 1 rfl) ?_
      refine lv_iadd hx hb d_Mod_length_26 ?_
      refine lv_iconst (v := 3) hx hb d_Mod_length_27 (by decide) ?_
      refine lv_isub hx hb d_Mod_length_28 ?_
      refine kVv (y := y_Mod_sign) (ws' := fun u12 => [e_Mod a Mod_thrown Mod_width Mod_height Mod_many u12.1 u12.2.1 Mod_single Mod_runs Mod_longest, e_ar a n cI 17 u12.2.2]) (wr := []) (As := [.int ((257 + x1) - 3)]) (rest := []) E hw (c_Mod_sign (l := l) (dC := dC) (dI := dI) (cI := cI) (tb := tb) (a := a) (n := n) (Mod_thrown := Mod_thrown) (Mod_width := Mod_width) (Mod_height := Mod_height) (Mod_many := Mod_many) (Mod_size := Mod_size) (Mod_bit := Mod_bit) (Mod_single := Mod_single) (Mod_runs := Mod_runs) (Mod_longest := Mod_longest) (mf := mf) (x1 := (257 + x1) - 3) h) tw540 tw542 tw27 tw42 tw543 1 (by decide) ⟨Nat.le_of_ble_eq_true rfl, Nat.le_of_ble_eq_true rfl⟩ ⟨Nat.le_of_ble_eq_true rfl, Nat.le_of_ble_eq_true rfl⟩ ⟨rfl, rfl⟩ rfl rfl 0 rfl [0, 1] [] [0, 1] rfl rfl rfl rfl (by decide) rfl (fun _ => rfl) hl.1 rfl rfl (Nat.le_of_ble_eq_true rfl) d_Mod_length_29 (fun u12 H locs h hw => ?_)
      exact retV (out := fun u => [e_Mod a Mod_thrown Mod_width Mod_height Mod_many u.1 u.2.1 Mod_single Mod_runs Mod_longest, e_ar a n cI 17 u.2.2]) (u := (u12.1, u12.2.1, u12.2.2)) E hr hlk hw h d_Mod_length_32
  · have h := h.2 c1
    refine lv_aload_n hx hb d_Mod_length_7 rfl (lv_at hl 0 rfl) ?_
    refine lv_sipush (v := 285) hx hb d_Mod_length_8 (by decide) ?_
    refine kVv (y := y_Mod_sign) (ws' := fun u14 => [e_Mod a Mod_thrown Mod_width Mod_height Mod_many u14.1 u14.2.1 Mod_single Mod_runs Mod_longest, e_ar a n cI 17 u14.2.2]) (wr := []) (As := [.int 285]) (rest := []) E hw (c_Mod_sign (l := l) (dC := dC) (dI := dI) (cI := cI) (tb := tb) (a := a) (n := n) (Mod_thrown := Mod_thrown) (Mod_width := Mod_width) (Mod_height := Mod_height) (Mod_many := Mod_many) (Mod_size := Mod_size) (Mod_bit := Mod_bit) (Mod_single := Mod_single) (Mod_runs := Mod_runs) (Mod_longest := Mod_longest) (mf := mf) (x1 := 285) h) tw540 tw542 tw27 tw42 tw543 1 (by decide) ⟨Nat.le_of_ble_eq_true rfl, Nat.le_of_ble_eq_true rfl⟩ ⟨Nat.le_of_ble_eq_true rfl, Nat.le_of_ble_eq_true rfl⟩ ⟨rfl, rfl⟩ rfl rfl 0 rfl [0, 1] [] [0, 1] rfl rfl rfl rfl (by decide) rfl (fun _ => rfl) hl.1 rfl rfl (Nat.le_of_ble_eq_true rfl) d_Mod_length_11 (fun u14 H locs h hw => ?_)
    exact retV (out := fun u => [e_Mod a Mod_thrown Mod_width Mod_height Mod_many u.1 u.2.1 Mod_single Mod_runs Mod_longest, e_ar a n cI 17 u.2.2]) (u := (u14.1, u14.2.1, u14.2.2)) E hr hlk hw h d_Mod_length_14
-- PicturePackerModel.distance(I)V
theorem d_Mod_distance_0 : decode prog_9_method_21_code 0 = .ok (.iload_n 1, 1) := by decide +kernel
theorem d_Mod_distance_1 : decode prog_9_method_21_code 1 = .ok (.iconst 5, 1) := by decide +kernel
theorem d_Mod_distance_2 : decode prog_9_method_21_code 2 = .ok (.if_icmp .ge 12, 3) := by decide +kernel
theorem d_Mod_distance_5 : decode prog_9_method_21_code 5 = .ok (.aload_n 0, 1) := by decide +kernel
theorem d_Mod_distance_6 : decode prog_9_method_21_code 6 = .ok (.iload_n 1, 1) := by decide +kernel
theorem d_Mod_distance_7 : decode prog_9_method_21_code 7 = .ok (.iconst 1, 1) := by decide +kernel
theorem d_Mod_distance_8 : decode prog_9_method_21_code 8 = .ok (.isub, 1) := by decide +kernel
theorem d_Mod_distance_9 : decode prog_9_method_21_code 9 = .ok (.iconst 5, 1) := by decide +kernel
theorem d_Mod_distance_10 : decode prog_9_method_21_code 10 = .ok (.invokevirtual 68, 3) := by decide +kernel
theorem d_Mod_distance_13 : decode prog_9_method_21_code 13 = .ok (.return_, 1) := by decide +kernel
theorem d_Mod_distance_14 : decode prog_9_method_21_code 14 = .ok (.iconst 1, 1) := by decide +kernel
theorem d_Mod_distance_15 : decode prog_9_method_21_code 15 = .ok (.istore_n 2, 1) := by decide +kernel
theorem d_Mod_distance_16 : decode prog_9_method_21_code 16 = .ok (.iconst 5, 1) := by decide +kernel
theorem d_Mod_distance_17 : decode prog_9_method_21_code 17 = .ok (.istore_n 3, 1) := by decide +kernel
theorem d_Mod_distance_18 : decode prog_9_method_21_code 18 = .ok (.iconst 4, 1) := by decide +kernel
theorem d_Mod_distance_19 : decode prog_9_method_21_code 19 = .ok (.istore 4, 2) := by decide +kernel
theorem d_Mod_distance_21 : decode prog_9_method_21_code 21 = .ok (.iload_n 1, 1) := by decide +kernel
theorem d_Mod_distance_22 : decode prog_9_method_21_code 22 = .ok (.iload_n 3, 1) := by decide +kernel
theorem d_Mod_distance_23 : decode prog_9_method_21_code 23 = .ok (.iconst 2, 1) := by decide +kernel
theorem d_Mod_distance_24 : decode prog_9_method_21_code 24 = .ok (.iconst 1, 1) := by decide +kernel
theorem d_Mod_distance_25 : decode prog_9_method_21_code 25 = .ok (.iload_n 2, 1) := by decide +kernel
theorem d_Mod_distance_26 : decode prog_9_method_21_code 26 = .ok (.ishl, 1) := by decide +kernel
theorem d_Mod_distance_27 : decode prog_9_method_21_code 27 = .ok (.imul, 1) := by decide +kernel
theorem d_Mod_distance_28 : decode prog_9_method_21_code 28 = .ok (.iadd, 1) := by decide +kernel
theorem d_Mod_distance_29 : decode prog_9_method_21_code 29 = .ok (.if_icmp .lt 20, 3) := by decide +kernel
theorem d_Mod_distance_32 : decode prog_9_method_21_code 32 = .ok (.iload_n 3, 1) := by decide +kernel
theorem d_Mod_distance_33 : decode prog_9_method_21_code 33 = .ok (.iconst 2, 1) := by decide +kernel
theorem d_Mod_distance_34 : decode prog_9_method_21_code 34 = .ok (.iconst 1, 1) := by decide +kernel
theorem d_Mod_distance_35 : decode prog_9_method_21_code 35 = .ok (.iload_n 2, 1) := by decide +kernel
theorem d_Mod_distance_36 : decode prog_9_method_21_code 36 = .ok (.ishl, 1) := by decide +kernel
theorem d_Mod_distance_37 : decode prog_9_method_21_code 37 = .ok (.imul, 1) := by decide +kernel
theorem d_Mod_distance_38 : decode prog_9_method_21_code 38 = .ok (.iadd, 1) := by decide +kernel
theorem d_Mod_distance_39 : decode prog_9_method_21_code 39 = .ok (.istore_n 3, 1) := by decide +kernel
theorem d_Mod_distance_40 : decode prog_9_method_21_code 40 = .ok (.iinc 4 2, 3) := by decide +kernel
theorem d_Mod_distance_43 : decode prog_9_method_21_code 43 = .ok (.iinc 2 1, 3) := by decide +kernel
theorem d_Mod_distance_46 : decode prog_9_method_21_code 46 = .ok (.goto (-25), 3) := by decide +kernel
theorem d_Mod_distance_49 : decode prog_9_method_21_code 49 = .ok (.aload_n 0, 1) := by decide +kernel
theorem d_Mod_distance_50 : decode prog_9_method_21_code 50 = .ok (.iload 4, 2) := by decide +kernel
theorem d_Mod_distance_52 : decode prog_9_method_21_code 52 = .ok (.iload_n 1, 1) := by decide +kernel
theorem d_Mod_distance_53 : decode prog_9_method_21_code 53 = .ok (.iload_n 3, 1) := by decide +kernel
theorem d_Mod_distance_54 : decode prog_9_method_21_code 54 = .ok (.isub, 1) := by decide +kernel
theorem d_Mod_distance_55 : decode prog_9_method_21_code 55 = .ok (.iload_n 2, 1) := by decide +kernel
theorem d_Mod_distance_56 : decode prog_9_method_21_code 56 = .ok (.ishr, 1) := by decide +kernel
theorem d_Mod_distance_57 : decode prog_9_method_21_code 57 = .ok (.iadd, 1) := by decide +kernel
theorem d_Mod_distance_58 : decode prog_9_method_21_code 58 = .ok (.iconst 5, 1) := by decide +kernel
theorem d_Mod_distance_59 : decode prog_9_method_21_code 59 = .ok (.invokevirtual 68, 3) := by decide +kernel
theorem d_Mod_distance_62 : decode prog_9_method_21_code 62 = .ok (.aload_n 0, 1) := by decide +kernel
theorem d_Mod_distance_63 : decode prog_9_method_21_code 63 = .ok (.iload_n 1, 1) := by decide +kernel
theorem d_Mod_distance_64 : decode prog_9_method_21_code 64 = .ok (.iload_n 3, 1) := by decide +kernel
theorem d_Mod_distance_65 : decode prog_9_method_21_code 65 = .ok (.isub, 1) := by decide +kernel
theorem d_Mod_distance_66 : decode prog_9_method_21_code 66 = .ok (.iconst 1, 1) := by decide +kernel
theorem d_Mod_distance_67 : decode prog_9_method_21_code 67 = .ok (.iload_n 2, 1) := by decide +kernel
theorem d_Mod_distance_68 : decode prog_9_method_21_code 68 = .ok (.ishl, 1) := by decide +kernel
theorem d_Mod_distance_69 : decode prog_9_method_21_code 69 = .ok (.iconst 1, 1) := by decide +kernel
theorem d_Mod_distance_70 : decode prog_9_method_21_code 70 = .ok (.isub, 1) := by decide +kernel
theorem d_Mod_distance_71 : decode prog_9_method_21_code 71 = .ok (.iand, 1) := by decide +kernel
theorem d_Mod_distance_72 : decode prog_9_method_21_code 72 = .ok (.iload_n 2, 1) := by decide +kernel
theorem d_Mod_distance_73 : decode prog_9_method_21_code 73 = .ok (.invokevirtual 75, 3) := by decide +kernel
theorem d_Mod_distance_76 : decode prog_9_method_21_code 76 = .ok (.return_, 1) := by decide +kernel
abbrev y_Mod_distance : MethodName := ⟨"PicturePackerModel", "distance", "(I)V"⟩
def wp_Mod_distance_21 (n : Nat → Nat) (x1 : Int32) (post : Int32 × Int32 × (Nat → Int32) → Prop) : Nat → Int32 → Int32 → (Nat → Int32) → Int32 → Int32 → Int32 → Prop
  | 0 => fun _ _ _ _ _ _ => False
  | N + 1 => fun Mod_size Mod_bit mf y2 y3 y4 => ((x1 : Int32) < (y3 + (2 * ((1 : Int32) <<< (y2 &&& 31)))) → (wp_Mod_highest n Mod_size Mod_bit mf (y4 + ((x1 - y3 : Int32) >>> (y2 &&& 31))) 5 (fun u3 => wp_Mod_lowest n u3.1 u3.2.1 u3.2.2 ((x1 - y3) &&& (((1 : Int32) <<< (y2 &&& 31)) - 1)) y2 (fun u5 => post (u5.1, u5.2.1, u5.2.2))))) ∧ (¬ ((x1 : Int32) < (y3 + (2 * ((1 : Int32) <<< (y2 &&& 31))))) → (∀ z7 : Int32, z7 = (y3 + (2 * ((1 : Int32) <<< (y2 &&& 31)))) → (∀ z8 : Int32, z8 = (y4 + 2) → (∀ z9 : Int32, z9 = (y2 + 1) → (wp_Mod_distance_21 n x1 post N Mod_size Mod_bit mf z9 z7 z8)))))
def wp_Mod_distance (n : Nat → Nat) (Mod_size : Int32) (Mod_bit : Int32) (mf : Nat → Int32) (x1 : Int32) (post : Int32 × Int32 × (Nat → Int32) → Prop) : Prop := ((5 : Int32) ≤ x1 → (∃ N10 : Nat, wp_Mod_distance_21 n x1 post N10 Mod_size Mod_bit mf 1 5 4)) ∧ (¬ ((5 : Int32) ≤ x1) → (wp_Mod_highest n Mod_size Mod_bit mf (x1 - 1) 5 (fun u11 => post (u11.1, u11.2.1, u11.2.2))))
set_option maxHeartbeats 2000000 in
set_option maxRecDepth 20000 in
theorem s_Mod_distance_21 {l : Launch} {dC : Nat → ClassId} {dI : Nat → Nat → Nat} {cI : ClassId} {tb : Tbs} {a n : Nat → Nat} {p : Program} {e : Env} {s : State} {m : MethodId} {args : Array Value} {below : List Frame} {meth : Method} {c : Code} {A : Nat → Prop} (E : CallFix p m c prog_9_method_21_code 5 s args TBL "PicturePackerModel") (hr : meth.sig.returnType = none) (hlk : meth.locks = false) {Mod_thrown : Int32} {Mod_width : Int32} {Mod_height : Int32} {Mod_many : Int32} {Mod_single : Int32} {Mod_runs : Int32} {Mod_longest : Int32} {x1 : Int32} {post : Int32 × Int32 × (Nat → Int32) → Prop} : ∀ (N : Nat) (Mod_size : Int32) (Mod_bit : Int32) (mf : Nat → Int32) (y2 : Int32) (y3 : Int32) (y4 : Int32) (H : Heap) (locs : List Loc) (ls : Array Slot), Wl classes dC dI cI tb A s H locs [e_Mod a Mod_thrown Mod_width Mod_height Mod_many Mod_size Mod_bit Mod_single Mod_runs Mod_longest, e_ar a n cI 17 mf] → lv_has ls 5 [(0, .ref (a 7)), (1, .int x1), (2, .int y2), (3, .int y3), (4, .int y4)] → wp_Mod_distance_21 n x1 post N Mod_size Mod_bit mf y2 y3 y4 → W p l e ({ frames := 3, cells := 0, slots := 0, locals := 65 }) s m args below meth c H locs 0 0 (MQ below (va_Qv post (fun u => End0 classes dC dI cI A [e_Mod a Mod_thrown Mod_width Mod_height Mod_many u.1 u.2.1 Mod_single Mod_runs Mod_longest, e_ar a n cI 17 u.2.2]) A) args s 0 0 A) (F0 m 21 ls []) := by
  obtain ⟨hx, hb, hml, hown, hts⟩ := id E
  intro N
  induction N with
  | zero =>
    intro _ _ _ _ _ _ H locs ls hw hl h
    exact absurd h id
  | succ N ih =>
    intro Mod_size Mod_bit mf y2 y3 y4 H locs ls hw hl h
    unfold wp_Mod_distance_21 at h
    refine lv_iload_n hx hb d_Mod_distance_21 rfl (lv_at hl 1 rfl) ?_
    refine lv_iload_n hx hb d_Mod_distance_22 rfl (lv_at hl 3 rfl) ?_
    refine lv_iconst (v := 2) hx hb d_Mod_distance_23 (by decide) ?_
    refine lv_iconst (v := 1) hx hb d_Mod_distance_24 (by decide) ?_
    refine lv_iload_n hx hb d_Mod_distance_25 rfl (lv_at hl 2 rfl) ?_
    refine lv_ishl hx hb d_Mod_distance_26 ?_
    refine lv_imul hx hb d_Mod_distance_27 ?_
    refine lv_iadd hx hb d_Mod_distance_28 ?_
    refine lv_icmp_lt (tgt := 49) hx hb d_Mod_distance_29 (by decide) (fun c2 => ?_) (fun c2 => ?_)
    · have h := h.1 c2
      refine lv_aload_n hx hb d_Mod_distance_49 rfl (lv_at hl 0 rfl) ?_
      refine lv_iload hx hb d_Mod_distance_50 (lv_at hl 4 rfl) ?_
      refine lv_iload_n hx hb d_Mod_distance_52 rfl (lv_at hl 1 rfl) ?_
      refine lv_iload_n hx hb d_Mod_distance_53 rfl (lv_at hl 3 rfl) ?_
      refine lv_isub hx hb d_Mod_distance_54 ?_
      refine lv_iload_n hx hb d_Mod_distance_55 rfl (lv_at hl 2 rfl) ?_
      refine lv_ishr hx hb d_Mod_distance_56 ?_
      refine lv_iadd hx hb d_Mod_distance_57 ?_
      refine lv_iconst (v := 5) hx hb d_Mod_distance_58 (by decide) ?_
      refine kVv (y := y_Mod_highest) (ws' := fun u3 => [e_Mod a Mod_thrown Mod_width Mod_height Mod_many u3.1 u3.2.1 Mod_single Mod_runs Mod_longest, e_ar a n cI 17 u3.2.2]) (wr := []) (As := [.int (y4 + ((x1 - y3 : Int32) >>> (y2 &&& 31))), .int 5]) (rest := []) E hw (c_Mod_highest (l := l) (dC := dC) (dI := dI) (cI := cI) (tb := tb) (a := a) (n := n) (Mod_thrown := Mod_thrown) (Mod_width := Mod_width) (Mod_height := Mod_height) (Mod_many := Mod_many) (Mod_size := Mod_size) (Mod_bit := Mod_bit) (Mod_single := Mod_single) (Mod_runs := Mod_runs) (Mod_longest := Mod_longest) (mf := mf) (x1 := y4 + ((x1 - y3 : Int32) >>> (y2 &&& 31))) (x2 := 5) h) tw544 tw546 tw28 tw42 tw547 2 (by decide) ⟨Nat.le_of_ble_eq_true rfl, Nat.le_of_ble_eq_true rfl⟩ ⟨Nat.le_of_ble_eq_true rfl, Nat.le_of_ble_eq_true rfl⟩ ⟨rfl, rfl⟩ rfl rfl 0 rfl [0, 1] [] [0, 1] rfl rfl rfl rfl (by decide) rfl (fun _ => rfl) hl.1 rfl rfl (Nat.le_of_ble_eq_true rfl) d_Mod_distance_59 (fun u3 H locs h hw => ?_)
      refine lv_aload_n hx hb d_Mod_distance_62 rfl (lv_at hl 0 rfl) ?_
      refine lv_iload_n hx hb d_Mod_distance_63 rfl (lv_at hl 1 rfl) ?_
      refine lv_iload_n hx hb d_Mod_distance_64 rfl (lv_at hl 3 rfl) ?_
      refine lv_isub hx hb d_Mod_distance_65 ?_
      refine lv_iconst (v := 1) hx hb d_Mod_distance_66 (by decide) ?_
      refine lv_iload_n hx hb d_Mod_distance_67 rfl (lv_at hl 2 rfl) ?_
      refine lv_ishl hx hb d_Mod_distance_68 ?_
      refine lv_iconst (v := 1) hx hb d_Mod_distance_69 (by decide) ?_
      refine lv_isub hx hb d_Mod_distance_70 ?_
      refine lv_iand hx hb d_Mod_distance_71 ?_
      refine lv_iload_n hx hb d_Mod_distance_72 rfl (lv_at hl 2 rfl) ?_
      refine kVv (y := y_Mod_lowest) (ws' := fun u5 => [e_Mod a Mod_thrown Mod_width Mod_height Mod_many u5.1 u5.2.1 Mod_single Mod_runs Mod_longest, e_ar a n cI 17 u5.2.2]) (wr := []) (As := [.int ((x1 - y3) &&& (((1 : Int32) <<< (y2 &&& 31)) - 1)), .int y2]) (rest := []) E hw (c_Mod_lowest (l := l) (dC := dC) (dI := dI) (cI := cI) (tb := tb) (a := a) (n := n) (Mod_thrown := Mod_thrown) (Mod_width := Mod_width) (Mod_height := Mod_height) (Mod_many := Mod_many) (Mod_size := u3.1) (Mod_bit := u3.2.1) (Mod_single := Mod_single) (Mod_runs := Mod_runs) (Mod_longest := Mod_longest) (mf := u3.2.2) (x1 := (x1 - y3) &&& (((1 : Int32) <<< (y2 &&& 31)) - 1)) (x2 := y2) h) tw548 tw550 tw29 tw42 tw551 2 (by decide) ⟨Nat.le_of_ble_eq_true rfl, Nat.le_of_ble_eq_true rfl⟩ ⟨Nat.le_of_ble_eq_true rfl, Nat.le_of_ble_eq_true rfl⟩ ⟨rfl, rfl⟩ rfl rfl 0 rfl [0, 1] [] [0, 1] rfl rfl rfl rfl (by decide) rfl (fun _ => rfl) hl.1 rfl rfl (Nat.le_of_ble_eq_true rfl) d_Mod_distance_73 (fun u5 H locs h hw => ?_)
      exact retV (out := fun u => [e_Mod a Mod_thrown Mod_width Mod_height Mod_many u.1 u.2.1 Mod_single Mod_runs Mod_longest, e_ar a n cI 17 u.2.2]) (u := (u5.1, u5.2.1, u5.2.2)) E hr hlk hw h d_Mod_distance_76
    · have h := h.2 c2
      refine lv_iload_n hx hb d_Mod_distance_32 rfl (lv_at hl 3 rfl) ?_
      refine lv_iconst (v := 2) hx hb d_Mod_distance_33 (by decide) ?_
      refine lv_iconst (v := 1) hx hb d_Mod_distance_34 (by decide) ?_
      refine lv_iload_n hx hb d_Mod_distance_35 rfl (lv_at hl 2 rfl) ?_
      refine lv_ishl hx hb d_Mod_distance_36 ?_
      refine lv_imul hx hb d_Mod_distance_37 ?_
      refine lv_iadd hx hb d_Mod_distance_38 ?_
      refine lv_topi (fun z7 ez7 => ?_)
      have h := h z7 ez7
      refine lv_istore_n (lv' := [(3, .int z7), (0, .ref (a 7)), (1, .int x1), (2, .int y2), (4, .int y4)]) hx hb d_Mod_distance_39 rfl hl (by decide) rfl (fun ls hl => ?_)
      obtain ⟨z8, ez8⟩ : ∃ z : Int32, z = y4 + 2 := ⟨_, rfl⟩
      have h := h z8 ez8
      refine lv_iinc (v := z8) (lv' := [(4, .int z8), (3, .int z7), (0, .ref (a 7)), (1, .int x1), (2, .int y2)]) hx hb d_Mod_distance_40 hl (k := 4) rfl (by rw [ez8]; exact congrArg (y4 + ·) (by decide)) (by decide) rfl (fun ls hl => ?_)
      obtain ⟨z9, ez9⟩ : ∃ z : Int32, z = y2 + 1 := ⟨_, rfl⟩
      have h := h z9 ez9
      refine lv_iinc (v := z9) (lv' := [(2, .int z9), (4, .int z8), (3, .int z7), (0, .ref (a 7)), (1, .int x1)]) hx hb d_Mod_distance_43 hl (k := 4) rfl (by rw [ez9]; exact congrArg (y2 + ·) (by decide)) (by decide) rfl (fun ls hl => ?_)
      refine lv_goto (tgt := 21) hx hb d_Mod_distance_46 (by decide) ?_
      exact ih Mod_size Mod_bit mf z9 z7 z8 _ _ ls hw (lv_sub hl [3, 4, 0, 2, 1] rfl) h
set_option maxHeartbeats 2000000 in
set_option maxRecDepth 20000 in
theorem c_Mod_distance {l : Launch} {dC : Nat → ClassId} {dI : Nat → Nat → Nat} {cI : ClassId} {tb : Tbs} {a n : Nat → Nat} {Mod_thrown : Int32} {Mod_width : Int32} {Mod_height : Int32} {Mod_many : Int32} {Mod_size : Int32} {Mod_bit : Int32} {Mod_single : Int32} {Mod_runs : Int32} {Mod_longest : Int32} {mf : Nat → Int32} {x1 : Int32} {post : Int32 × Int32 × (Nat → Int32) → Prop} (h : wp_Mod_distance n Mod_size Mod_bit mf x1 post) : CtV classes dC dI cI tb l y_Mod_distance prog_9_method_21_code 5 ({ frames := 3, cells := 0, slots := 0, locals := 65 }) [.ref (a 7), .int x1] [e_Mod a Mod_thrown Mod_width Mod_height Mod_many Mod_size Mod_bit Mod_single Mod_runs Mod_longest, e_ar a n cI 17 mf] (Int32 × Int32 × (Nat → Int32)) (fun u => [e_Mod a Mod_thrown Mod_width Mod_height Mod_many u.1 u.2.1 Mod_single Mod_runs Mod_longest, e_ar a n cI 17 u.2.2]) post := by
  refine startV (by decide) (Nat.le_of_ble_eq_true rfl) ?_
  intro p e s m below meth c ls E hr hlk hnm hl hw
  have hl : lv_has ls 5 [(0, .ref (a 7)), (1, .int x1)] := hl
  generalize va_A [e_Mod a Mod_thrown Mod_width Mod_height Mod_many Mod_size Mod_bit Mod_single Mod_runs Mod_longest, e_ar a n cI 17 mf] s.heap.size = A at hw ⊢
  obtain ⟨hx, hb, hml, hown, hts⟩ := id E
  unfold wp_Mod_distance at h
  refine lv_iload_n hx hb d_Mod_distance_0 rfl (lv_at hl 1 rfl) ?_
  refine lv_iconst (v := 5) hx hb d_Mod_distance_1 (by decide) ?_
  refine lv_icmp_ge (tgt := 14) hx hb d_Mod_distance_2 (by decide) (fun c1 => ?_) (fun c1 => ?_)
  · have h := h.1 c1
    refine lv_iconst (v := 1) hx hb d_Mod_distance_14 (by decide) ?_
    refine lv_istore_n (lv' := [(2, .int 1), (0, .ref (a 7)), (1, .int x1)]) hx hb d_Mod_distance_15 rfl hl (by decide) rfl (fun ls hl => ?_)
    refine lv_iconst (v := 5) hx hb d_Mod_distance_16 (by decide) ?_
    refine lv_istore_n (lv' := [(3, .int 5), (2, .int 1), (0, .ref (a 7)), (1, .int x1)]) hx hb d_Mod_distance_17 rfl hl (by decide) rfl (fun ls hl => ?_)
    refine lv_iconst (v := 4) hx hb d_Mod_distance_18 (by decide) ?_
    refine lv_istore (lv' := [(4, .int 4), (3, .int 5), (2, .int 1), (0, .ref (a 7)), (1, .int x1)]) hx hb d_Mod_distance_19 hl (by decide) rfl (fun ls hl => ?_)
    obtain ⟨N10, h⟩ := h
    exact s_Mod_distance_21 (a := a) (n := n) (tb := tb) E hr hlk  N10 Mod_size Mod_bit mf 1 5 4 _ _ ls hw (lv_sub hl [3, 4, 2, 1, 0] rfl) h
  · have h := h.2 c1
    refine lv_aload_n hx hb d_Mod_distance_5 rfl (lv_at hl 0 rfl) ?_
    refine lv_iload_n hx hb d_Mod_distance_6 rfl (lv_at hl 1 rfl) ?_
    refine lv_iconst (v := 1) hx hb d_Mod_distance_7 (by decide) ?_
    refine lv_isub hx hb d_Mod_distance_8 ?_
    refine lv_iconst (v := 5) hx hb d_Mod_distance_9 (by decide) ?_
    refine kVv (y := y_Mod_highest) (ws' := fun u11 => [e_Mod a Mod_thrown Mod_width Mod_height Mod_many u11.1 u11.2.1 Mod_single Mod_runs Mod_longest, e_ar a n cI 17 u11.2.2]) (wr := []) (As := [.int (x1 - 1), .int 5]) (rest := []) E hw (c_Mod_highest (l := l) (dC := dC) (dI := dI) (cI := cI) (tb := tb) (a := a) (n := n) (Mod_thrown := Mod_thrown) (Mod_width := Mod_width) (Mod_height := Mod_height) (Mod_many := Mod_many) (Mod_size := Mod_size) (Mod_bit := Mod_bit) (Mod_single := Mod_single) (Mod_runs := Mod_runs) (Mod_longest := Mod_longest) (mf := mf) (x1 := x1 - 1) (x2 := 5) h) tw544 tw546 tw28 tw42 tw547 2 (by decide) ⟨Nat.le_of_ble_eq_true rfl, Nat.le_of_ble_eq_true rfl⟩ ⟨Nat.le_of_ble_eq_true rfl, Nat.le_of_ble_eq_true rfl⟩ ⟨rfl, rfl⟩ rfl rfl 0 rfl [0, 1] [] [0, 1] rfl rfl rfl rfl (by decide) rfl (fun _ => rfl) hl.1 rfl rfl (Nat.le_of_ble_eq_true rfl) d_Mod_distance_10 (fun u11 H locs h hw => ?_)
    exact retV (out := fun u => [e_Mod a Mod_thrown Mod_width Mod_height Mod_many u.1 u.2.1 Mod_single Mod_runs Mod_longest, e_ar a n cI 17 u.2.2]) (u := (u11.1, u11.2.1, u11.2.2)) E hr hlk hw h d_Mod_distance_13
-- PicturePackerModel.run(III)I
theorem d_Mod_run_0 : decode prog_9_method_22_code 0 = .ok (.iconst 0, 1) := by decide +kernel
theorem d_Mod_run_1 : decode prog_9_method_22_code 1 = .ok (.istore 4, 2) := by decide +kernel
theorem d_Mod_run_3 : decode prog_9_method_22_code 3 = .ok (.iload 4, 2) := by decide +kernel
theorem d_Mod_run_5 : decode prog_9_method_22_code 5 = .ok (.iload_n 3, 1) := by decide +kernel
theorem d_Mod_run_6 : decode prog_9_method_22_code 6 = .ok (.if_icmp .ge 32, 3) := by decide +kernel
theorem d_Mod_run_9 : decode prog_9_method_22_code 9 = .ok (.aload_n 0, 1) := by decide +kernel
theorem d_Mod_run_10 : decode prog_9_method_22_code 10 = .ok (.getfield 13, 3) := by decide +kernel
theorem d_Mod_run_13 : decode prog_9_method_22_code 13 = .ok (.iload_n 1, 1) := by decide +kernel
theorem d_Mod_run_14 : decode prog_9_method_22_code 14 = .ok (.iload 4, 2) := by decide +kernel
theorem d_Mod_run_16 : decode prog_9_method_22_code 16 = .ok (.iadd, 1) := by decide +kernel
theorem d_Mod_run_17 : decode prog_9_method_22_code 17 = .ok (.iaload, 1) := by decide +kernel
theorem d_Mod_run_18 : decode prog_9_method_22_code 18 = .ok (.aload_n 0, 1) := by decide +kernel
theorem d_Mod_run_19 : decode prog_9_method_22_code 19 = .ok (.getfield 13, 3) := by decide +kernel
theorem d_Mod_run_22 : decode prog_9_method_22_code 22 = .ok (.iload_n 1, 1) := by decide +kernel
theorem d_Mod_run_23 : decode prog_9_method_22_code 23 = .ok (.iload 4, 2) := by decide +kernel
theorem d_Mod_run_25 : decode prog_9_method_22_code 25 = .ok (.iadd, 1) := by decide +kernel
theorem d_Mod_run_26 : decode prog_9_method_22_code 26 = .ok (.iload_n 2, 1) := by decide +kernel
theorem d_Mod_run_27 : decode prog_9_method_22_code 27 = .ok (.isub, 1) := by decide +kernel
theorem d_Mod_run_28 : decode prog_9_method_22_code 28 = .ok (.iaload, 1) := by decide +kernel
theorem d_Mod_run_29 : decode prog_9_method_22_code 29 = .ok (.if_icmp .ne 9, 3) := by decide +kernel
theorem d_Mod_run_32 : decode prog_9_method_22_code 32 = .ok (.iinc 4 1, 3) := by decide +kernel
theorem d_Mod_run_35 : decode prog_9_method_22_code 35 = .ok (.goto (-32), 3) := by decide +kernel
theorem d_Mod_run_38 : decode prog_9_method_22_code 38 = .ok (.iload 4, 2) := by decide +kernel
theorem d_Mod_run_40 : decode prog_9_method_22_code 40 = .ok (.ireturn, 1) := by decide +kernel
abbrev y_Mod_run : MethodName := ⟨"PicturePackerModel", "run", "(III)I"⟩
def wp_Mod_run_3 (n : Nat → Nat) (mr : Nat → Int32) (x1 : Int32) (x2 : Int32) (x3 : Int32) (post : Int32 → Unit → Prop) : Nat → Int32 → Prop
  | 0 => fun _ => False
  | N + 1 => fun y4 => ((x3 : Int32) ≤ y4 → (post y4 ())) ∧ (¬ ((x3 : Int32) ≤ y4) → (vp_in (x1 + y4) (n 16) ∧ (vp_in ((x1 + y4) - x2) (n 16) ∧ ((¬ (mr (x1 + y4 : Int32).toNatClampNeg : Int32) = (mr ((x1 + y4) - x2 : Int32).toNatClampNeg) → (post y4 ())) ∧ ((mr (x1 + y4 : Int32).toNatClampNeg : Int32) = (mr ((x1 + y4) - x2 : Int32).toNatClampNeg) → (∀ z5 : Int32, z5 = (y4 + 1) → (wp_Mod_run_3 n mr x1 x2 x3 post N z5)))))))
def wp_Mod_run (n : Nat → Nat) (mr : Nat → Int32) (x1 : Int32) (x2 : Int32) (x3 : Int32) (post : Int32 → Unit → Prop) : Prop := ∃ N6 : Nat, wp_Mod_run_3 n mr x1 x2 x3 post N6 0
set_option maxHeartbeats 2000000 in
set_option maxRecDepth 20000 in
theorem s_Mod_run_3 {l : Launch} {dC : Nat → ClassId} {dI : Nat → Nat → Nat} {cI : ClassId} {tb : Tbs} {a n : Nat → Nat} {p : Program} {e : Env} {s : State} {m : MethodId} {args : Array Value} {below : List Frame} {meth : Method} {c : Code} {A : Nat → Prop} (E : CallFix p m c prog_9_method_22_code 5 s args TBL "PicturePackerModel") (hr : meth.sig.returnType = some .int) (hlk : meth.locks = false) {Mod_thrown : Int32} {Mod_width : Int32} {Mod_height : Int32} {Mod_many : Int32} {Mod_size : Int32} {Mod_bit : Int32} {Mod_single : Int32} {Mod_runs : Int32} {Mod_longest : Int32} {mr : Nat → Int32} {x1 : Int32} {x2 : Int32} {x3 : Int32} {post : Int32 → Unit → Prop} : ∀ (N : Nat) (y4 : Int32) (H : Heap) (locs : List Loc) (ls : Array Slot), Wl classes dC dI cI tb A s H locs [e_Mod a Mod_thrown Mod_width Mod_height Mod_many Mod_size Mod_bit Mod_single Mod_runs Mod_longest, e_ar a n cI 16 mr] → lv_has ls 5 [(0, .ref (a 7)), (1, .int x1), (2, .int x2), (3, .int x3), (4, .int y4)] → wp_Mod_run_3 n mr x1 x2 x3 post N y4 → W p l e ({ frames := 0, cells := 0, slots := 0, locals := 0 }) s m args below meth c H locs 0 0 (MQ below (va_Qi post (fun u => End0 classes dC dI cI A [e_Mod a Mod_thrown Mod_width Mod_height Mod_many Mod_size Mod_bit Mod_single Mod_runs Mod_longest, e_ar a n cI 16 mr]) A) args s 0 0 A) (F0 m 3 ls []) := by
  obtain ⟨hx, hb, hml, hown, hts⟩ := id E
  intro N
  induction N with
  | zero =>
    intro _ H locs ls hw hl h
    exact absurd h id
  | succ N ih =>
    intro y4 H locs ls hw hl h
    unfold wp_Mod_run_3 at h
    refine lv_iload hx hb d_Mod_run_3 (lv_at hl 4 rfl) ?_
    refine lv_iload_n hx hb d_Mod_run_5 rfl (lv_at hl 3 rfl) ?_
    refine lv_icmp_ge (tgt := 38) hx hb d_Mod_run_6 (by decide) (fun c1 => ?_) (fun c1 => ?_)
    · have h := h.1 c1
      refine lv_iload hx hb d_Mod_run_38 (lv_at hl 4 rfl) ?_
      exact retI (out := fun u => [e_Mod a Mod_thrown Mod_width Mod_height Mod_many Mod_size Mod_bit Mod_single Mod_runs Mod_longest, e_ar a n cI 16 mr]) (u := ()) E hr hlk rfl hw h d_Mod_run_40
    · have h := h.2 c1
      refine lv_aload_n hx hb d_Mod_run_9 rfl (lv_at hl 0 rfl) ?_
      refine kget (v := .ref (a 16)) (T := F_Mod) E hw in_Mod rfl 0 4 rfl (by decide) tw433 rfl d_Mod_run_10 ?_
      refine lv_iload_n hx hb d_Mod_run_13 rfl (lv_at hl 1 rfl) ?_
      refine lv_iload hx hb d_Mod_run_14 (lv_at hl 4 rfl) ?_
      refine lv_iadd hx hb d_Mod_run_16 ?_
      obtain ⟨b2, h⟩ := h
      refine kald E hw 1 rfl b2 d_Mod_run_17 ?_
      refine lv_aload_n hx hb d_Mod_run_18 rfl (lv_at hl 0 rfl) ?_
      refine kget (v := .ref (a 16)) (T := F_Mod) E hw in_Mod rfl 0 4 rfl (by decide) tw433 rfl d_Mod_run_19 ?_
      refine lv_iload_n hx hb d_Mod_run_22 rfl (lv_at hl 1 rfl) ?_
      refine lv_iload hx hb d_Mod_run_23 (lv_at hl 4 rfl) ?_
      refine lv_iadd hx hb d_Mod_run_25 ?_
      refine lv_iload_n hx hb d_Mod_run_26 rfl (lv_at hl 2 rfl) ?_
      refine lv_isub hx hb d_Mod_run_27 ?_
      obtain ⟨b3, h⟩ := h
      refine kald E hw 1 rfl b3 d_Mod_run_28 ?_
      refine lv_icmp_ne (tgt := 38) hx hb d_Mod_run_29 (by decide) (fun c4 => ?_) (fun c4 => ?_)
      · have h := h.1 c4
        refine lv_iload hx hb d_Mod_run_38 (lv_at hl 4 rfl) ?_
        exact retI (out := fun u => [e_Mod a Mod_thrown Mod_width Mod_height Mod_many Mod_size Mod_bit Mod_single Mod_runs Mod_longest, e_ar a n cI 16 mr]) (u := ()) E hr hlk rfl hw h d_Mod_run_40
      · have h := h.2 c4
        obtain ⟨z5, ez5⟩ : ∃ z : Int32, z = y4 + 1 := ⟨_, rfl⟩
        have h := h z5 ez5
        refine lv_iinc (v := z5) (lv' := [(4, .int z5), (0, .ref (a 7)), (1, .int x1), (2, .int x2), (3, .int x3)]) hx hb d_Mod_run_32 hl (k := 4) rfl (by rw [ez5]; exact congrArg (y4 + ·) (by decide)) (by decide) rfl (fun ls hl => ?_)
        refine lv_goto (tgt := 3) hx hb d_Mod_run_35 (by decide) ?_
        exact ih z5 _ _ ls hw (lv_sub hl [1, 2, 3, 4, 0] rfl) h
set_option maxHeartbeats 2000000 in
set_option maxRecDepth 20000 in
theorem c_Mod_run {l : Launch} {dC : Nat → ClassId} {dI : Nat → Nat → Nat} {cI : ClassId} {tb : Tbs} {a n : Nat → Nat} {Mod_thrown : Int32} {Mod_width : Int32} {Mod_height : Int32} {Mod_many : Int32} {Mod_size : Int32} {Mod_bit : Int32} {Mod_single : Int32} {Mod_runs : Int32} {Mod_longest : Int32} {mr : Nat → Int32} {x1 : Int32} {x2 : Int32} {x3 : Int32} {post : Int32 → Unit → Prop} (h : wp_Mod_run n mr x1 x2 x3 post) : CtI classes dC dI cI tb l y_Mod_run prog_9_method_22_code 5 .int ({ frames := 0, cells := 0, slots := 0, locals := 0 }) [.ref (a 7), .int x1, .int x2, .int x3] [e_Mod a Mod_thrown Mod_width Mod_height Mod_many Mod_size Mod_bit Mod_single Mod_runs Mod_longest, e_ar a n cI 16 mr] (Unit) (fun _ => [e_Mod a Mod_thrown Mod_width Mod_height Mod_many Mod_size Mod_bit Mod_single Mod_runs Mod_longest, e_ar a n cI 16 mr]) post := by
  refine startI (by decide) (Nat.le_of_ble_eq_true rfl) ?_
  intro p e s m below meth c ls E hr hlk hnm hl hw
  have hl : lv_has ls 5 [(0, .ref (a 7)), (1, .int x1), (2, .int x2), (3, .int x3)] := hl
  generalize va_A [e_Mod a Mod_thrown Mod_width Mod_height Mod_many Mod_size Mod_bit Mod_single Mod_runs Mod_longest, e_ar a n cI 16 mr] s.heap.size = A at hw ⊢
  obtain ⟨hx, hb, hml, hown, hts⟩ := id E
  unfold wp_Mod_run at h
  refine lv_iconst (v := 0) hx hb d_Mod_run_0 (by decide) ?_
  refine lv_istore (lv' := [(4, .int 0), (0, .ref (a 7)), (1, .int x1), (2, .int x2), (3, .int x3)]) hx hb d_Mod_run_1 hl (by decide) rfl (fun ls hl => ?_)
  obtain ⟨N6, h⟩ := h
  exact s_Mod_run_3 (a := a) (n := n) (tb := tb) E hr hlk  N6 0 _ _ ls hw (lv_sub hl [1, 2, 3, 4, 0] rfl) h
-- PicturePackerModel.pack()V
theorem d_Mod_pack_0 : decode prog_9_method_23_code 0 = .ok (.aload_n 0, 1) := by decide +kernel
theorem d_Mod_pack_1 : decode prog_9_method_23_code 1 = .ok (.iconst 1, 1) := by decide +kernel
theorem d_Mod_pack_2 : decode prog_9_method_23_code 2 = .ok (.invokevirtual 65, 3) := by decide +kernel
theorem d_Mod_pack_5 : decode prog_9_method_23_code 5 = .ok (.aload_n 0, 1) := by decide +kernel
theorem d_Mod_pack_6 : decode prog_9_method_23_code 6 = .ok (.iconst 1, 1) := by decide +kernel
theorem d_Mod_pack_7 : decode prog_9_method_23_code 7 = .ok (.invokevirtual 65, 3) := by decide +kernel
theorem d_Mod_pack_10 : decode prog_9_method_23_code 10 = .ok (.aload_n 0, 1) := by decide +kernel
theorem d_Mod_pack_11 : decode prog_9_method_23_code 11 = .ok (.iconst 0, 1) := by decide +kernel
theorem d_Mod_pack_12 : decode prog_9_method_23_code 12 = .ok (.invokevirtual 65, 3) := by decide +kernel
theorem d_Mod_pack_15 : decode prog_9_method_23_code 15 = .ok (.iconst 0, 1) := by decide +kernel
theorem d_Mod_pack_16 : decode prog_9_method_23_code 16 = .ok (.istore_n 1, 1) := by decide +kernel
theorem d_Mod_pack_17 : decode prog_9_method_23_code 17 = .ok (.iload_n 1, 1) := by decide +kernel
theorem d_Mod_pack_18 : decode prog_9_method_23_code 18 = .ok (.aload_n 0, 1) := by decide +kernel
theorem d_Mod_pack_19 : decode prog_9_method_23_code 19 = .ok (.getfield 45, 3) := by decide +kernel
theorem d_Mod_pack_22 : decode prog_9_method_23_code 22 = .ok (.if_icmp .ge 199, 3) := by decide +kernel
theorem d_Mod_pack_25 : decode prog_9_method_23_code 25 = .ok (.aload_n 0, 1) := by decide +kernel
theorem d_Mod_pack_26 : decode prog_9_method_23_code 26 = .ok (.getfield 45, 3) := by decide +kernel
theorem d_Mod_pack_29 : decode prog_9_method_23_code 29 = .ok (.iload_n 1, 1) := by decide +kernel
theorem d_Mod_pack_30 : decode prog_9_method_23_code 30 = .ok (.isub, 1) := by decide +kernel
theorem d_Mod_pack_31 : decode prog_9_method_23_code 31 = .ok (.sipush 258, 3) := by decide +kernel
theorem d_Mod_pack_34 : decode prog_9_method_23_code 34 = .ok (.if_icmp .ge 12, 3) := by decide +kernel
theorem d_Mod_pack_37 : decode prog_9_method_23_code 37 = .ok (.aload_n 0, 1) := by decide +kernel
theorem d_Mod_pack_38 : decode prog_9_method_23_code 38 = .ok (.getfield 45, 3) := by decide +kernel
theorem d_Mod_pack_41 : decode prog_9_method_23_code 41 = .ok (.iload_n 1, 1) := by decide +kernel
theorem d_Mod_pack_42 : decode prog_9_method_23_code 42 = .ok (.isub, 1) := by decide +kernel
theorem d_Mod_pack_43 : decode prog_9_method_23_code 43 = .ok (.goto 6, 3) := by decide +kernel
theorem d_Mod_pack_46 : decode prog_9_method_23_code 46 = .ok (.sipush 258, 3) := by decide +kernel
theorem d_Mod_pack_49 : decode prog_9_method_23_code 49 = .ok (.istore_n 2, 1) := by decide +kernel
theorem d_Mod_pack_50 : decode prog_9_method_23_code 50 = .ok (.iconst 2, 1) := by decide +kernel
theorem d_Mod_pack_51 : decode prog_9_method_23_code 51 = .ok (.istore_n 3, 1) := by decide +kernel
theorem d_Mod_pack_52 : decode prog_9_method_23_code 52 = .ok (.iconst 0, 1) := by decide +kernel
theorem d_Mod_pack_53 : decode prog_9_method_23_code 53 = .ok (.istore 4, 2) := by decide +kernel
theorem d_Mod_pack_55 : decode prog_9_method_23_code 55 = .ok (.iconst 1, 1) := by decide +kernel
theorem d_Mod_pack_56 : decode prog_9_method_23_code 56 = .ok (.istore 5, 2) := by decide +kernel
theorem d_Mod_pack_58 : decode prog_9_method_23_code 58 = .ok (.iload 5, 2) := by decide +kernel
theorem d_Mod_pack_60 : decode prog_9_method_23_code 60 = .ok (.iload_n 1, 1) := by decide +kernel
theorem d_Mod_pack_61 : decode prog_9_method_23_code 61 = .ok (.if_icmp .gt 81, 3) := by decide +kernel
theorem d_Mod_pack_64 : decode prog_9_method_23_code 64 = .ok (.iload 5, 2) := by decide +kernel
theorem d_Mod_pack_66 : decode prog_9_method_23_code 66 = .ok (.ldc 78, 2) := by decide +kernel
theorem d_Mod_pack_68 : decode prog_9_method_23_code 68 = .ok (.if_icmp .gt 74, 3) := by decide +kernel
theorem d_Mod_pack_71 : decode prog_9_method_23_code 71 = .ok (.iload_n 3, 1) := by decide +kernel
theorem d_Mod_pack_72 : decode prog_9_method_23_code 72 = .ok (.iload_n 2, 1) := by decide +kernel
theorem d_Mod_pack_73 : decode prog_9_method_23_code 73 = .ok (.if_icmp .ge 69, 3) := by decide +kernel
theorem d_Mod_pack_76 : decode prog_9_method_23_code 76 = .ok (.aload_n 0, 1) := by decide +kernel
theorem d_Mod_pack_77 : decode prog_9_method_23_code 77 = .ok (.getfield 13, 3) := by decide +kernel
theorem d_Mod_pack_80 : decode prog_9_method_23_code 80 = .ok (.iload_n 1, 1) := by decide +kernel
theorem d_Mod_pack_81 : decode prog_9_method_23_code 81 = .ok (.iload_n 3, 1) := by decide +kernel
theorem d_Mod_pack_82 : decode prog_9_method_23_code 82 = .ok (.iadd, 1) := by decide +kernel
theorem d_Mod_pack_83 : decode prog_9_method_23_code 83 = .ok (.iaload, 1) := by decide +kernel
theorem d_Mod_pack_84 : decode prog_9_method_23_code 84 = .ok (.aload_n 0, 1) := by decide +kernel
theorem d_Mod_pack_85 : decode prog_9_method_23_code 85 = .ok (.getfield 13, 3) := by decide +kernel
theorem d_Mod_pack_88 : decode prog_9_method_23_code 88 = .ok (.iload_n 1, 1) := by decide +kernel
theorem d_Mod_pack_89 : decode prog_9_method_23_code 89 = .ok (.iload_n 3, 1) := by decide +kernel
theorem d_Mod_pack_90 : decode prog_9_method_23_code 90 = .ok (.iadd, 1) := by decide +kernel
theorem d_Mod_pack_91 : decode prog_9_method_23_code 91 = .ok (.iload 5, 2) := by decide +kernel
theorem d_Mod_pack_93 : decode prog_9_method_23_code 93 = .ok (.isub, 1) := by decide +kernel
theorem d_Mod_pack_94 : decode prog_9_method_23_code 94 = .ok (.iaload, 1) := by decide +kernel
theorem d_Mod_pack_95 : decode prog_9_method_23_code 95 = .ok (.if_icmp .ne 41, 3) := by decide +kernel
theorem d_Mod_pack_98 : decode prog_9_method_23_code 98 = .ok (.aload_n 0, 1) := by decide +kernel
theorem d_Mod_pack_99 : decode prog_9_method_23_code 99 = .ok (.iload_n 1, 1) := by decide +kernel
theorem d_Mod_pack_100 : decode prog_9_method_23_code 100 = .ok (.iload 5, 2) := by decide +kernel
theorem d_Mod_pack_102 : decode prog_9_method_23_code 102 = .ok (.iload_n 2, 1) := by decide +kernel
theorem d_Mod_pack_103 : decode prog_9_method_23_code 103 = .ok (.invokevirtual 79, 3) := by decide +kernel
theorem d_Mod_pack_106 : decode prog_9_method_23_code 106 = .ok (.istore 6, 2) := by decide +kernel
theorem d_Mod_pack_108 : decode prog_9_method_23_code 108 = .ok (.iload 6, 2) := by decide +kernel
theorem d_Mod_pack_110 : decode prog_9_method_23_code 110 = .ok (.iload_n 3, 1) := by decide +kernel
theorem d_Mod_pack_111 : decode prog_9_method_23_code 111 = .ok (.if_icmp .le 8, 3) := by decide +kernel
theorem d_Mod_pack_114 : decode prog_9_method_23_code 114 = .ok (.iload 5, 2) := by decide +kernel
theorem d_Mod_pack_116 : decode prog_9_method_23_code 116 = .ok (.goto 5, 3) := by decide +kernel
theorem d_Mod_pack_119 : decode prog_9_method_23_code 119 = .ok (.iload 4, 2) := by decide +kernel
theorem d_Mod_pack_121 : decode prog_9_method_23_code 121 = .ok (.istore 4, 2) := by decide +kernel
theorem d_Mod_pack_123 : decode prog_9_method_23_code 123 = .ok (.iload 6, 2) := by decide +kernel
theorem d_Mod_pack_125 : decode prog_9_method_23_code 125 = .ok (.iload_n 3, 1) := by decide +kernel
theorem d_Mod_pack_126 : decode prog_9_method_23_code 126 = .ok (.if_icmp .le 8, 3) := by decide +kernel
theorem d_Mod_pack_129 : decode prog_9_method_23_code 129 = .ok (.iload 6, 2) := by decide +kernel
theorem d_Mod_pack_131 : decode prog_9_method_23_code 131 = .ok (.goto 4, 3) := by decide +kernel
theorem d_Mod_pack_134 : decode prog_9_method_23_code 134 = .ok (.iload_n 3, 1) := by decide +kernel
theorem d_Mod_pack_135 : decode prog_9_method_23_code 135 = .ok (.istore_n 3, 1) := by decide +kernel
theorem d_Mod_pack_136 : decode prog_9_method_23_code 136 = .ok (.iinc 5 1, 3) := by decide +kernel
theorem d_Mod_pack_139 : decode prog_9_method_23_code 139 = .ok (.goto (-81), 3) := by decide +kernel
theorem d_Mod_pack_142 : decode prog_9_method_23_code 142 = .ok (.iload 4, 2) := by decide +kernel
theorem d_Mod_pack_144 : decode prog_9_method_23_code 144 = .ok (.ifCond .le 51, 3) := by decide +kernel
theorem d_Mod_pack_147 : decode prog_9_method_23_code 147 = .ok (.aload_n 0, 1) := by decide +kernel
theorem d_Mod_pack_148 : decode prog_9_method_23_code 148 = .ok (.iload_n 3, 1) := by decide +kernel
theorem d_Mod_pack_149 : decode prog_9_method_23_code 149 = .ok (.invokevirtual 82, 3) := by decide +kernel
theorem d_Mod_pack_152 : decode prog_9_method_23_code 152 = .ok (.aload_n 0, 1) := by decide +kernel
theorem d_Mod_pack_153 : decode prog_9_method_23_code 153 = .ok (.iload 4, 2) := by decide +kernel
theorem d_Mod_pack_155 : decode prog_9_method_23_code 155 = .ok (.invokevirtual 85, 3) := by decide +kernel
theorem d_Mod_pack_158 : decode prog_9_method_23_code 158 = .ok (.aload_n 0, 1) := by decide +kernel
theorem d_Mod_pack_159 : decode prog_9_method_23_code 159 = .ok (.dup, 1) := by decide +kernel
theorem d_Mod_pack_160 : decode prog_9_method_23_code 160 = .ok (.getfield 88, 3) := by decide +kernel
theorem d_Mod_pack_163 : decode prog_9_method_23_code 163 = .ok (.iconst 1, 1) := by decide +kernel
theorem d_Mod_pack_164 : decode prog_9_method_23_code 164 = .ok (.iadd, 1) := by decide +kernel
theorem d_Mod_pack_165 : decode prog_9_method_23_code 165 = .ok (.putfield 88, 3) := by decide +kernel
theorem d_Mod_pack_168 : decode prog_9_method_23_code 168 = .ok (.aload_n 0, 1) := by decide +kernel
theorem d_Mod_pack_169 : decode prog_9_method_23_code 169 = .ok (.iload_n 3, 1) := by decide +kernel
theorem d_Mod_pack_170 : decode prog_9_method_23_code 170 = .ok (.aload_n 0, 1) := by decide +kernel
theorem d_Mod_pack_171 : decode prog_9_method_23_code 171 = .ok (.getfield 91, 3) := by decide +kernel
theorem d_Mod_pack_174 : decode prog_9_method_23_code 174 = .ok (.if_icmp .le 7, 3) := by decide +kernel
theorem d_Mod_pack_177 : decode prog_9_method_23_code 177 = .ok (.iload_n 3, 1) := by decide +kernel
theorem d_Mod_pack_178 : decode prog_9_method_23_code 178 = .ok (.goto 7, 3) := by decide +kernel
theorem d_Mod_pack_181 : decode prog_9_method_23_code 181 = .ok (.aload_n 0, 1) := by decide +kernel
theorem d_Mod_pack_182 : decode prog_9_method_23_code 182 = .ok (.getfield 91, 3) := by decide +kernel
theorem d_Mod_pack_185 : decode prog_9_method_23_code 185 = .ok (.putfield 91, 3) := by decide +kernel
theorem d_Mod_pack_188 : decode prog_9_method_23_code 188 = .ok (.iload_n 1, 1) := by decide +kernel
theorem d_Mod_pack_189 : decode prog_9_method_23_code 189 = .ok (.iload_n 3, 1) := by decide +kernel
theorem d_Mod_pack_190 : decode prog_9_method_23_code 190 = .ok (.iadd, 1) := by decide +kernel
theorem d_Mod_pack_191 : decode prog_9_method_23_code 191 = .ok (.istore_n 1, 1) := by decide +kernel
theorem d_Mod_pack_192 : decode prog_9_method_23_code 192 = .ok (.goto 26, 3) := by decide +kernel
theorem d_Mod_pack_195 : decode prog_9_method_23_code 195 = .ok (.aload_n 0, 1) := by decide +kernel
theorem d_Mod_pack_196 : decode prog_9_method_23_code 196 = .ok (.aload_n 0, 1) := by decide +kernel
theorem d_Mod_pack_197 : decode prog_9_method_23_code 197 = .ok (.getfield 13, 3) := by decide +kernel
theorem d_Mod_pack_200 : decode prog_9_method_23_code 200 = .ok (.iload_n 1, 1) := by decide +kernel
theorem d_Mod_pack_201 : decode prog_9_method_23_code 201 = .ok (.iaload, 1) := by decide +kernel
theorem d_Mod_pack_202 : decode prog_9_method_23_code 202 = .ok (.invokevirtual 72, 3) := by decide +kernel
theorem d_Mod_pack_205 : decode prog_9_method_23_code 205 = .ok (.aload_n 0, 1) := by decide +kernel
theorem d_Mod_pack_206 : decode prog_9_method_23_code 206 = .ok (.dup, 1) := by decide +kernel
theorem d_Mod_pack_207 : decode prog_9_method_23_code 207 = .ok (.getfield 94, 3) := by decide +kernel
theorem d_Mod_pack_210 : decode prog_9_method_23_code 210 = .ok (.iconst 1, 1) := by decide +kernel
theorem d_Mod_pack_211 : decode prog_9_method_23_code 211 = .ok (.iadd, 1) := by decide +kernel
theorem d_Mod_pack_212 : decode prog_9_method_23_code 212 = .ok (.putfield 94, 3) := by decide +kernel
theorem d_Mod_pack_215 : decode prog_9_method_23_code 215 = .ok (.iinc 1 1, 3) := by decide +kernel
theorem d_Mod_pack_218 : decode prog_9_method_23_code 218 = .ok (.goto (-201), 3) := by decide +kernel
theorem d_Mod_pack_221 : decode prog_9_method_23_code 221 = .ok (.aload_n 0, 1) := by decide +kernel
theorem d_Mod_pack_222 : decode prog_9_method_23_code 222 = .ok (.sipush 256, 3) := by decide +kernel
theorem d_Mod_pack_225 : decode prog_9_method_23_code 225 = .ok (.invokevirtual 72, 3) := by decide +kernel
theorem d_Mod_pack_228 : decode prog_9_method_23_code 228 = .ok (.aload_n 0, 1) := by decide +kernel
theorem d_Mod_pack_229 : decode prog_9_method_23_code 229 = .ok (.iconst 0, 1) := by decide +kernel
theorem d_Mod_pack_230 : decode prog_9_method_23_code 230 = .ok (.putfield 62, 3) := by decide +kernel
theorem d_Mod_pack_233 : decode prog_9_method_23_code 233 = .ok (.return_, 1) := by decide +kernel
abbrev y_Mod_pack : MethodName := ⟨"PicturePackerModel", "pack", "()V"⟩
def wp_Mod_pack_142 (n : Nat → Nat) (Mod_many : Int32) (mr : Nat → Int32) (post : Int32 × Int32 × Int32 × Int32 × Int32 × (Nat → Int32) → Prop) (k17 : Int32 → Int32 → Int32 → Int32 → Int32 → (Nat → Int32) → Int32 → Prop) (Mod_size : Int32) (Mod_bit : Int32) (Mod_single : Int32) (Mod_runs : Int32) (Mod_longest : Int32) (mf : Nat → Int32) (y1 : Int32) (y3 : Int32) (y4 : Int32) : Prop := ((y4 : Int32) ≤ 0 → (vp_in y1 (n 16) ∧ (wp_Mod_sign n Mod_size Mod_bit mf (mr (y1 : Int32).toNatClampNeg) (fun u14 => ∀ z16 : Int32, z16 = (Mod_single + 1) → (∀ z17 : Int32, z17 = (y1 + 1) → (k17 u14.1 u14.2.1 z16 Mod_runs Mod_longest u14.2.2 z17)))))) ∧ (¬ ((y4 : Int32) ≤ 0) → (wp_Mod_length n Mod_size Mod_bit mf y3 (fun u18 => wp_Mod_distance n u18.1 u18.2.1 u18.2.2 y4 (fun u20 => ∀ z22 : Int32, z22 = (Mod_runs + 1) → (((y3 : Int32) ≤ Mod_longest → (∀ z24 : Int32, z24 = (y1 + y3) → (k17 u20.1 u20.2.1 Mod_single z22 Mod_longest u20.2.2 z24))) ∧ (¬ ((y3 : Int32) ≤ Mod_longest) → (∀ z25 : Int32, z25 = (y1 + y3) → (k17 u20.1 u20.2.1 Mod_single z22 y3 u20.2.2 z25))))))))
def wp_Mod_pack_121 (n : Nat → Nat) (Mod_many : Int32) (mr : Nat → Int32) (post : Int32 × Int32 × Int32 × Int32 × Int32 × (Nat → Int32) → Prop) (k17 : Int32 → Int32 → Int32 → Int32 → Int32 → (Nat → Int32) → Int32 → Prop) (k58 : Int32 → Int32 → Int32 → Int32 → Int32 → (Nat → Int32) → Int32 → Int32 → Int32 → Int32 → Int32 → Prop) (Mod_size : Int32) (Mod_bit : Int32) (Mod_single : Int32) (Mod_runs : Int32) (Mod_longest : Int32) (mf : Nat → Int32) (t0 : Int32) (y1 : Int32) (y2 : Int32) (y3 : Int32) (y5 : Int32) (y6 : Int32) : Prop := ((y6 : Int32) ≤ y3 → (∀ z36 : Int32, z36 = (y5 + 1) → (k58 Mod_size Mod_bit Mod_single Mod_runs Mod_longest mf y1 y2 y3 t0 z36))) ∧ (¬ ((y6 : Int32) ≤ y3) → (∀ z37 : Int32, z37 = (y5 + 1) → (k58 Mod_size Mod_bit Mod_single Mod_runs Mod_longest mf y1 y2 y6 t0 z37)))
def wp_Mod_pack_58 (n : Nat → Nat) (Mod_many : Int32) (mr : Nat → Int32) (post : Int32 × Int32 × Int32 × Int32 × Int32 × (Nat → Int32) → Prop) (k17 : Int32 → Int32 → Int32 → Int32 → Int32 → (Nat → Int32) → Int32 → Prop) : Nat → Int32 → Int32 → Int32 → Int32 → Int32 → (Nat → Int32) → Int32 → Int32 → Int32 → Int32 → Int32 → Prop
  | 0 => fun _ _ _ _ _ _ _ _ _ _ _ => False
  | N + 1 => fun Mod_size Mod_bit Mod_single Mod_runs Mod_longest mf y1 y2 y3 y4 y5 => ((y1 : Int32) < y5 → (wp_Mod_pack_142 n Mod_many mr post k17 Mod_size Mod_bit Mod_single Mod_runs Mod_longest mf y1 y3 y4)) ∧ (¬ ((y1 : Int32) < y5) → (((32768 : Int32) < y5 → (wp_Mod_pack_142 n Mod_many mr post k17 Mod_size Mod_bit Mod_single Mod_runs Mod_longest mf y1 y3 y4)) ∧ (¬ ((32768 : Int32) < y5) → (((y2 : Int32) ≤ y3 → (wp_Mod_pack_142 n Mod_many mr post k17 Mod_size Mod_bit Mod_single Mod_runs Mod_longest mf y1 y3 y4)) ∧ (¬ ((y2 : Int32) ≤ y3) → (vp_in (y1 + y3) (n 16) ∧ (vp_in ((y1 + y3) - y5) (n 16) ∧ ((¬ (mr (y1 + y3 : Int32).toNatClampNeg : Int32) = (mr ((y1 + y3) - y5 : Int32).toNatClampNeg) → (∀ z31 : Int32, z31 = (y5 + 1) → (wp_Mod_pack_58 n Mod_many mr post k17 N Mod_size Mod_bit Mod_single Mod_runs Mod_longest mf y1 y2 y3 y4 z31))) ∧ ((mr (y1 + y3 : Int32).toNatClampNeg : Int32) = (mr ((y1 + y3) - y5 : Int32).toNatClampNeg) → (wp_Mod_run n mr y1 y5 y2 (fun r33 _ => ((r33 : Int32) ≤ y3 → (wp_Mod_pack_121 n Mod_many mr post k17 (wp_Mod_pack_58 n Mod_many mr post k17 N) Mod_size Mod_bit Mod_single Mod_runs Mod_longest mf y4 y1 y2 y3 y5 r33)) ∧ (¬ ((r33 : Int32) ≤ y3) → (wp_Mod_pack_121 n Mod_many mr post k17 (wp_Mod_pack_58 n Mod_many mr post k17 N) Mod_size Mod_bit Mod_single Mod_runs Mod_longest mf y5 y1 y2 y3 y5 r33)))))))))))))
def wp_Mod_pack_17 (n : Nat → Nat) (Mod_many : Int32) (mr : Nat → Int32) (post : Int32 × Int32 × Int32 × Int32 × Int32 × (Nat → Int32) → Prop) : Nat → Int32 → Int32 → Int32 → Int32 → Int32 → (Nat → Int32) → Int32 → Prop
  | 0 => fun _ _ _ _ _ _ _ => False
  | N + 1 => fun Mod_size Mod_bit Mod_single Mod_runs Mod_longest mf y1 => ((Mod_many : Int32) ≤ y1 → (wp_Mod_sign n Mod_size Mod_bit mf 256 (fun u8 => post (u8.1, 0, Mod_single, Mod_runs, Mod_longest, u8.2.2)))) ∧ (¬ ((Mod_many : Int32) ≤ y1) → (((258 : Int32) ≤ (Mod_many - y1) → (∃ N38 : Nat, wp_Mod_pack_58 n Mod_many mr post (wp_Mod_pack_17 n Mod_many mr post N) N38 Mod_size Mod_bit Mod_single Mod_runs Mod_longest mf y1 258 2 0 1)) ∧ (¬ ((258 : Int32) ≤ (Mod_many - y1)) → (∀ z39 : Int32, z39 = (Mod_many - y1) → (∃ N40 : Nat, wp_Mod_pack_58 n Mod_many mr post (wp_Mod_pack_17 n Mod_many mr post N) N40 Mod_size Mod_bit Mod_single Mod_runs Mod_longest mf y1 z39 2 0 1)))))
def wp_Mod_pack (n : Nat → Nat) (Mod_many : Int32) (Mod_size : Int32) (Mod_bit : Int32) (Mod_single : Int32) (Mod_runs : Int32) (Mod_longest : Int32) (mr : Nat → Int32) (mf : Nat → Int32) (post : Int32 × Int32 × Int32 × Int32 × Int32 × (Nat → Int32) → Prop) : Prop := wp_Mod_next n Mod_size Mod_bit mf 1 (fun u1 => wp_Mod_next n u1.1 u1.2.1 u1.2.2 1 (fun u3 => wp_Mod_next n u3.1 u3.2.1 u3.2.2 0 (fun u5 => ∃ N41 : Nat, wp_Mod_pack_17 n Mod_many mr post N41 u5.1 u5.2.1 Mod_single Mod_runs Mod_longest u5.2.2 0)))
set_option maxHeartbeats 2000000 in
set_option maxRecDepth 20000 in
theorem s_Mod_pack_142 {l : Launch} {dC : Nat → ClassId} {dI : Nat → Nat → Nat} {cI : ClassId} {tb : Tbs} {a n : Nat → Nat} {p : Program} {e : Env} {s : State} {m : MethodId} {args : Array Value} {below : List Frame} {meth : Method} {c : Code} {A : Nat → Prop} (E : CallFix p m c prog_9_method_23_code 7 s args TBL "PicturePackerModel") (hr : meth.sig.returnType = none) (hlk : meth.locks = false) {Mod_thrown : Int32} {Mod_width : Int32} {Mod_height : Int32} {Mod_many : Int32} {mr : Nat → Int32} {post : Int32 × Int32 × Int32 × Int32 × Int32 × (Nat → Int32) → Prop} {k17 : Int32 → Int32 → Int32 → Int32 → Int32 → (Nat → Int32) → Int32 → Prop} (hk17 : ∀ (Mod_size : Int32) (Mod_bit : Int32) (Mod_single : Int32) (Mod_runs : Int32) (Mod_longest : Int32) (mf : Nat → Int32) (y1 : Int32) (H : Heap) (locs : List Loc) (ls : Array Slot), Wl classes dC dI cI tb A s H locs [e_Mod a Mod_thrown Mod_width Mod_height Mod_many Mod_size Mod_bit Mod_single Mod_runs Mod_longest, e_ar a n cI 16 mr, e_ar a n cI 17 mf] → lv_has ls 7 [(0, .ref (a 7)), (1, .int y1)] → k17 Mod_size Mod_bit Mod_single Mod_runs Mod_longest mf y1 → W p l e ({ frames := 5, cells := 0, slots := 0, locals := 110 }) s m args below meth c H locs 0 0 (MQ below (va_Qv post (fun u => End0 classes dC dI cI A [e_Mod a Mod_thrown Mod_width Mod_height Mod_many u.1 u.2.1 u.2.2.1 u.2.2.2.1 u.2.2.2.2.1, e_ar a n cI 16 mr, e_ar a n cI 17 u.2.2.2.2.2]) A) args s 0 0 A) (F0 m 17 ls [])) : ∀ (Mod_size : Int32) (Mod_bit : Int32) (Mod_single : Int32) (Mod_runs : Int32) (Mod_longest : Int32) (mf : Nat → Int32) (y1 : Int32) (y3 : Int32) (y4 : Int32) (H : Heap) (locs : List Loc) (ls : Array Slot), Wl classes dC dI cI tb A s H locs [e_Mod a Mod_thrown Mod_width Mod_height Mod_many Mod_size Mod_bit Mod_single Mod_runs Mod_longest, e_ar a n cI 16 mr, e_ar a n cI 17 mf] → lv_has ls 7 [(0, .ref (a 7)), (1, .int y1), (3, .int y3), (4, .int y4)] → wp_Mod_pack_142 n Mod_many mr post k17 Mod_size Mod_bit Mod_single Mod_runs Mod_longest mf y1 y3 y4 → W p l e ({ frames := 5, cells := 0, slots := 0, locals := 110 }) s m args below meth c H locs 0 0 (MQ below (va_Qv post (fun u => End0 classes dC dI cI A [e_Mod a Mod_thrown Mod_width Mod_height Mod_many u.1 u.2.1 u.2.2.1 u.2.2.2.1 u.2.2.2.2.1, e_ar a n cI 16 mr, e_ar a n cI 17 u.2.2.2.2.2]) A) args s 0 0 A) (F0 m 142 ls []) := by
  obtain ⟨hx, hb, hml, hown, hts⟩ := id E
  intro Mod_size Mod_bit Mod_single Mod_runs Mod_longest mf y1 y3 y4 H locs ls hw hl h
  unfold wp_Mod_pack_142 at h
  refine lv_iload hx hb d_Mod_pack_142 (lv_at hl 3 rfl) ?_
  refine lv_if_le (tgt := 195) hx hb d_Mod_pack_144 (by decide) (fun c12 => ?_) (fun c12 => ?_)
  · have h := h.1 c12
    refine lv_aload_n hx hb d_Mod_pack_195 rfl (lv_at hl 0 rfl) ?_
    refine lv_aload_n hx hb d_Mod_pack_196 rfl (lv_at hl 0 rfl) ?_
    refine kget (v := .ref (a 16)) (T := F_Mod) E hw in_Mod rfl 0 4 rfl (by decide) tw433 rfl d_Mod_pack_197 ?_
    refine lv_iload_n hx hb d_Mod_pack_200 rfl (lv_at hl 1 rfl) ?_
    obtain ⟨b13, h⟩ := h
    refine kald E hw 1 rfl b13 d_Mod_pack_201 ?_
    refine kVv (y := y_Mod_sign) (ws' := fun u14 => [e_Mod a Mod_thrown Mod_width Mod_height Mod_many u14.1 u14.2.1 Mod_single Mod_runs Mod_longest, e_ar a n cI 16 mr, e_ar a n cI 17 u14.2.2]) (wr := [e_ar a n cI 16 mr]) (As := [.int (mr (y1 : Int32).toNatClampNeg)]) (rest := []) E hw (c_Mod_sign (l := l) (dC := dC) (dI := dI) (cI := cI) (tb := tb) (a := a) (n := n) (Mod_thrown := Mod_thrown) (Mod_width := Mod_width) (Mod_height := Mod_height) (Mod_many := Mod_many) (Mod_size := Mod_size) (Mod_bit := Mod_bit) (Mod_single := Mod_single) (Mod_runs := Mod_runs) (Mod_longest := Mod_longest) (mf := mf) (x1 := mr (y1 : Int32).toNatClampNeg) h) tw540 tw542 tw27 tw42 tw543 1 (by decide) ⟨Nat.le_of_ble_eq_true rfl, Nat.le_of_ble_eq_true rfl⟩ ⟨Nat.le_of_ble_eq_true rfl, Nat.le_of_ble_eq_true rfl⟩ ⟨rfl, rfl⟩ rfl rfl 0 rfl [0, 2] [1] [1, 0, 2] rfl rfl rfl rfl (by decide) rfl (fun _ => rfl) hl.1 rfl rfl (Nat.le_of_ble_eq_true rfl) d_Mod_pack_202 (fun u14 H locs h hw => ?_)
    refine lv_aload_n hx hb d_Mod_pack_205 rfl (lv_at hl 0 rfl) ?_
    refine lv_dup hx hb d_Mod_pack_206 rfl ?_
    refine kget (v := .int Mod_single) (T := F_Mod) E hw in_Mod rfl 0 9 rfl (by decide) tw438 rfl d_Mod_pack_207 ?_
    refine lv_iconst (v := 1) hx hb d_Mod_pack_210 (by decide) ?_
    refine lv_iadd hx hb d_Mod_pack_211 ?_
    refine lv_topi (fun z16 ez16 => ?_)
    have h := h z16 ez16
    refine kput (v := .int z16) (ty := .int) (T := F_Mod) (ws' := [e_Mod a Mod_thrown Mod_width Mod_height Mod_many u14.1 u14.2.1 z16 Mod_runs Mod_longest, e_ar a n cI 16 mr, e_ar a n cI 17 u14.2.2]) E hw in_Mod t_Mod t_Mod_ok n_Mod rfl 0 9 rfl (by decide) tw438 rfl rfl rfl rfl (Nat.le_of_ble_eq_true rfl) rfl d_Mod_pack_212 (fun H locs hw => ?_)
    obtain ⟨z17, ez17⟩ : ∃ z : Int32, z = y1 + 1 := ⟨_, rfl⟩
    have h := h z17 ez17
    refine lv_iinc (v := z17) (lv' := [(1, .int z17), (0, .ref (a 7)), (3, .int y3), (4, .int y4)]) hx hb d_Mod_pack_215 hl (k := 1) rfl (by rw [ez17]; exact congrArg (y1 + ·) (by decide)) (by decide) rfl (fun ls hl => ?_)
    refine lv_goto (tgt := 17) hx hb d_Mod_pack_218 (by decide) ?_
    exact hk17 u14.1 u14.2.1 z16 Mod_runs Mod_longest u14.2.2 z17 _ _ ls hw (lv_sub hl [1, 0] rfl) h
  · have h := h.2 c12
    refine lv_aload_n hx hb d_Mod_pack_147 rfl (lv_at hl 0 rfl) ?_
    refine lv_iload_n hx hb d_Mod_pack_148 rfl (lv_at hl 2 rfl) ?_
    refine kVv (y := y_Mod_length) (ws' := fun u18 => [e_Mod a Mod_thrown Mod_width Mod_height Mod_many u18.1 u18.2.1 Mod_single Mod_runs Mod_longest, e_ar a n cI 16 mr, e_ar a n cI 17 u18.2.2]) (wr := [e_ar a n cI 16 mr]) (As := [.int y3]) (rest := []) E hw (c_Mod_length (l := l) (dC := dC) (dI := dI) (cI := cI) (tb := tb) (a := a) (n := n) (Mod_thrown := Mod_thrown) (Mod_width := Mod_width) (Mod_height := Mod_height) (Mod_many := Mod_many) (Mod_size := Mod_size) (Mod_bit := Mod_bit) (Mod_single := Mod_single) (Mod_runs := Mod_runs) (Mod_longest := Mod_longest) (mf := mf) (x1 := y3) h) tw536 tw538 tw26 tw42 tw539 1 (by decide) ⟨Nat.le_of_ble_eq_true rfl, Nat.le_of_ble_eq_true rfl⟩ ⟨Nat.le_of_ble_eq_true rfl, Nat.le_of_ble_eq_true rfl⟩ ⟨rfl, rfl⟩ rfl rfl 0 rfl [0, 2] [1] [1, 0, 2] rfl rfl rfl rfl (by decide) rfl (fun _ => rfl) hl.1 rfl rfl (Nat.le_of_ble_eq_true rfl) d_Mod_pack_149 (fun u18 H locs h hw => ?_)
    refine lv_aload_n hx hb d_Mod_pack_152 rfl (lv_at hl 0 rfl) ?_
    refine lv_iload hx hb d_Mod_pack_153 (lv_at hl 3 rfl) ?_
    refine kVv (y := y_Mod_distance) (ws' := fun u20 => [e_Mod a Mod_thrown Mod_width Mod_height Mod_many u20.1 u20.2.1 Mod_single Mod_runs Mod_longest, e_ar a n cI 16 mr, e_ar a n cI 17 u20.2.2]) (wr := [e_ar a n cI 16 mr]) (As := [.int y4]) (rest := []) E hw (c_Mod_distance (l := l) (dC := dC) (dI := dI) (cI := cI) (tb := tb) (a := a) (n := n) (Mod_thrown := Mod_thrown) (Mod_width := Mod_width) (Mod_height := Mod_height) (Mod_many := Mod_many) (Mod_size := u18.1) (Mod_bit := u18.2.1) (Mod_single := Mod_single) (Mod_runs := Mod_runs) (Mod_longest := Mod_longest) (mf := u18.2.2) (x1 := y4) h) tw552 tw554 tw30 tw42 tw555 1 (by decide) ⟨Nat.le_of_ble_eq_true rfl, Nat.le_of_ble_eq_true rfl⟩ ⟨Nat.le_of_ble_eq_true rfl, Nat.le_of_ble_eq_true rfl⟩ ⟨rfl, rfl⟩ rfl rfl 0 rfl [0, 2] [1] [1, 0, 2] rfl rfl rfl rfl (by decide) rfl (fun _ => rfl) hl.1 rfl rfl (Nat.le_of_ble_eq_true rfl) d_Mod_pack_155 (fun u20 H locs h hw => ?_)
    refine lv_aload_n hx hb d_Mod_pack_158 rfl (lv_at hl 0 rfl) ?_
    refine lv_dup hx hb d_Mod_pack_159 rfl ?_
    refine kget (v := .int Mod_runs) (T := F_Mod) E hw in_Mod rfl 0 10 rfl (by decide) tw439 rfl d_Mod_pack_160 ?_
    refine lv_iconst (v := 1) hx hb d_Mod_pack_163 (by decide) ?_
    refine lv_iadd hx hb d_Mod_pack_164 ?_
    refine lv_topi (fun z22 ez22 => ?_)
    have h := h z22 ez22
    refine kput (v := .int z22) (ty := .int) (T := F_Mod) (ws' := [e_Mod a Mod_thrown Mod_width Mod_height Mod_many u20.1 u20.2.1 Mod_single z22 Mod_longest, e_ar a n cI 16 mr, e_ar a n cI 17 u20.2.2]) E hw in_Mod t_Mod t_Mod_ok n_Mod rfl 0 10 rfl (by decide) tw439 rfl rfl rfl rfl (Nat.le_of_ble_eq_true rfl) rfl d_Mod_pack_165 (fun H locs hw => ?_)
    refine lv_aload_n hx hb d_Mod_pack_168 rfl (lv_at hl 0 rfl) ?_
    refine lv_iload_n hx hb d_Mod_pack_169 rfl (lv_at hl 2 rfl) ?_
    refine lv_aload_n hx hb d_Mod_pack_170 rfl (lv_at hl 0 rfl) ?_
    refine kget (v := .int Mod_longest) (T := F_Mod) E hw in_Mod rfl 0 11 rfl (by decide) tw440 rfl d_Mod_pack_171 ?_
    refine lv_icmp_le (tgt := 181) hx hb d_Mod_pack_174 (by decide) (fun c23 => ?_) (fun c23 => ?_)
    · have h := h.1 c23
      refine lv_aload_n hx hb d_Mod_pack_181 rfl (lv_at hl 0 rfl) ?_
      refine kget (v := .int Mod_longest) (T := F_Mod) E hw in_Mod rfl 0 11 rfl (by decide) tw440 rfl d_Mod_pack_182 ?_
      refine kput (v := .int Mod_longest) (ty := .int) (T := F_Mod) (ws' := [e_Mod a Mod_thrown Mod_width Mod_height Mod_many u20.1 u20.2.1 Mod_single z22 Mod_longest, e_ar a n cI 16 mr, e_ar a n cI 17 u20.2.2]) E hw in_Mod t_Mod t_Mod_ok n_Mod rfl 0 11 rfl (by decide) tw440 rfl rfl rfl rfl (Nat.le_of_ble_eq_true rfl) rfl d_Mod_pack_185 (fun H locs hw => ?_)
      refine lv_iload_n hx hb d_Mod_pack_188 rfl (lv_at hl 1 rfl) ?_
      refine lv_iload_n hx hb d_Mod_pack_189 rfl (lv_at hl 2 rfl) ?_
      refine lv_iadd hx hb d_Mod_pack_190 ?_
      refine lv_topi (fun z24 ez24 => ?_)
      have h := h z24 ez24
      refine lv_istore_n (lv' := [(1, .int z24), (0, .ref (a 7)), (3, .int y3), (4, .int y4)]) hx hb d_Mod_pack_191 rfl hl (by decide) rfl (fun ls hl => ?_)
      refine lv_goto (tgt := 218) hx hb d_Mod_pack_192 (by decide) ?_
      refine lv_goto (tgt := 17) hx hb d_Mod_pack_218 (by decide) ?_
      exact hk17 u20.1 u20.2.1 Mod_single z22 Mod_longest u20.2.2 z24 _ _ ls hw (lv_sub hl [1, 0] rfl) h
    · have h := h.2 c23
      refine lv_iload_n hx hb d_Mod_pack_177 rfl (lv_at hl 2 rfl) ?_
      refine lv_goto (tgt := 185) hx hb d_Mod_pack_178 (by decide) ?_
      refine kput (v := .int y3) (ty := .int) (T := F_Mod) (ws' := [e_Mod a Mod_thrown Mod_width Mod_height Mod_many u20.1 u20.2.1 Mod_single z22 y3, e_ar a n cI 16 mr, e_ar a n cI 17 u20.2.2]) E hw in_Mod t_Mod t_Mod_ok n_Mod rfl 0 11 rfl (by decide) tw440 rfl rfl rfl rfl (Nat.le_of_ble_eq_true rfl) rfl d_Mod_pack_185 (fun H locs hw => ?_)
      refine lv_iload_n hx hb d_Mod_pack_188 rfl (lv_at hl 1 rfl) ?_
      refine lv_iload_n hx hb d_Mod_pack_189 rfl (lv_at hl 2 rfl) ?_
      refine lv_iadd hx hb d_Mod_pack_190 ?_
      refine lv_topi (fun z25 ez25 => ?_)
      have h := h z25 ez25
      refine lv_istore_n (lv' := [(1, .int z25), (0, .ref (a 7)), (3, .int y3), (4, .int y4)]) hx hb d_Mod_pack_191 rfl hl (by decide) rfl (fun ls hl => ?_)
      refine lv_goto (tgt := 218) hx hb d_Mod_pack_192 (by decide) ?_
      refine lv_goto (tgt := 17) hx hb d_Mod_pack_218 (by decide) ?_
      exact hk17 u20.1 u20.2.1 Mod_single z22 y3 u20.2.2 z25 _ _ ls hw (lv_sub hl [1, 0] rfl) h
set_option maxHeartbeats 2000000 in
set_option maxRecDepth 20000 in
theorem s_Mod_pack_121 {l : Launch} {dC : Nat → ClassId} {dI : Nat → Nat → Nat} {cI : ClassId} {tb : Tbs} {a n : Nat → Nat} {p : Program} {e : Env} {s : State} {m : MethodId} {args : Array Value} {below : List Frame} {meth : Method} {c : Code} {A : Nat → Prop} (E : CallFix p m c prog_9_method_23_code 7 s args TBL "PicturePackerModel") (hr : meth.sig.returnType = none) (hlk : meth.locks = false) {Mod_thrown : Int32} {Mod_width : Int32} {Mod_height : Int32} {Mod_many : Int32} {mr : Nat → Int32} {post : Int32 × Int32 × Int32 × Int32 × Int32 × (Nat → Int32) → Prop} {k17 : Int32 → Int32 → Int32 → Int32 → Int32 → (Nat → Int32) → Int32 → Prop} (hk17 : ∀ (Mod_size : Int32) (Mod_bit : Int32) (Mod_single : Int32) (Mod_runs : Int32) (Mod_longest : Int32) (mf : Nat → Int32) (y1 : Int32) (H : Heap) (locs : List Loc) (ls : Array Slot), Wl classes dC dI cI tb A s H locs [e_Mod a Mod_thrown Mod_width Mod_height Mod_many Mod_size Mod_bit Mod_single Mod_runs Mod_longest, e_ar a n cI 16 mr, e_ar a n cI 17 mf] → lv_has ls 7 [(0, .ref (a 7)), (1, .int y1)] → k17 Mod_size Mod_bit Mod_single Mod_runs Mod_longest mf y1 → W p l e ({ frames := 5, cells := 0, slots := 0, locals := 110 }) s m args below meth c H locs 0 0 (MQ below (va_Qv post (fun u => End0 classes dC dI cI A [e_Mod a Mod_thrown Mod_width Mod_height Mod_many u.1 u.2.1 u.2.2.1 u.2.2.2.1 u.2.2.2.2.1, e_ar a n cI 16 mr, e_ar a n cI 17 u.2.2.2.2.2]) A) args s 0 0 A) (F0 m 17 ls [])) {k58 : Int32 → Int32 → Int32 → Int32 → Int32 → (Nat → Int32) → Int32 → Int32 → Int32 → Int32 → Int32 → Prop} (hk58 : ∀ (Mod_size : Int32) (Mod_bit : Int32) (Mod_single : Int32) (Mod_runs : Int32) (Mod_longest : Int32) (mf : Nat → Int32) (y1 : Int32) (y2 : Int32) (y3 : Int32) (y4 : Int32) (y5 : Int32) (H : Heap) (locs : List Loc) (ls : Array Slot), Wl classes dC dI cI tb A s H locs [e_Mod a Mod_thrown Mod_width Mod_height Mod_many Mod_size Mod_bit Mod_single Mod_runs Mod_longest, e_ar a n cI 16 mr, e_ar a n cI 17 mf] → lv_has ls 7 [(0, .ref (a 7)), (1, .int y1), (2, .int y2), (3, .int y3), (4, .int y4), (5, .int y5)] → k58 Mod_size Mod_bit Mod_single Mod_runs Mod_longest mf y1 y2 y3 y4 y5 → W p l e ({ frames := 5, cells := 0, slots := 0, locals := 110 }) s m args below meth c H locs 0 0 (MQ below (va_Qv post (fun u => End0 classes dC dI cI A [e_Mod a Mod_thrown Mod_width Mod_height Mod_many u.1 u.2.1 u.2.2.1 u.2.2.2.1 u.2.2.2.2.1, e_ar a n cI 16 mr, e_ar a n cI 17 u.2.2.2.2.2]) A) args s 0 0 A) (F0 m 58 ls [])) : ∀ (Mod_size : Int32) (Mod_bit : Int32) (Mod_single : Int32) (Mod_runs : Int32) (Mod_longest : Int32) (mf : Nat → Int32) (t0 : Int32) (y1 : Int32) (y2 : Int32) (y3 : Int32) (y5 : Int32) (y6 : Int32) (H : Heap) (locs : List Loc) (ls : Array Slot), Wl classes dC dI cI tb A s H locs [e_Mod a Mod_thrown Mod_width Mod_height Mod_many Mod_size Mod_bit Mod_single Mod_runs Mod_longest, e_ar a n cI 16 mr, e_ar a n cI 17 mf] → lv_has ls 7 [(0, .ref (a 7)), (1, .int y1), (2, .int y2), (3, .int y3), (5, .int y5), (6, .int y6)] → wp_Mod_pack_121 n Mod_many mr post k17 k58 Mod_size Mod_bit Mod_single Mod_runs Mod_longest mf t0 y1 y2 y3 y5 y6 → W p l e ({ frames := 5, cells := 0, slots := 0, locals := 110 }) s m args below meth c H locs 0 0 (MQ below (va_Qv post (fun u => End0 classes dC dI cI A [e_Mod a Mod_thrown Mod_width Mod_height Mod_many u.1 u.2.1 u.2.2.1 u.2.2.2.1 u.2.2.2.2.1, e_ar a n cI 16 mr, e_ar a n cI 17 u.2.2.2.2.2]) A) args s 0 0 A) (F0 m 121 ls [.int t0]) := by
  obtain ⟨hx, hb, hml, hown, hts⟩ := id E
  intro Mod_size Mod_bit Mod_single Mod_runs Mod_longest mf t0 y1 y2 y3 y5 y6 H locs ls hw hl h
  unfold wp_Mod_pack_121 at h
  refine lv_istore (lv' := [(4, .int t0), (0, .ref (a 7)), (1, .int y1), (2, .int y2), (3, .int y3), (5, .int y5), (6, .int y6)]) hx hb d_Mod_pack_121 hl (by decide) rfl (fun ls hl => ?_)
  refine lv_iload hx hb d_Mod_pack_123 (lv_at hl 6 rfl) ?_
  refine lv_iload_n hx hb d_Mod_pack_125 rfl (lv_at hl 4 rfl) ?_
  refine lv_icmp_le (tgt := 134) hx hb d_Mod_pack_126 (by decide) (fun c35 => ?_) (fun c35 => ?_)
  · have h := h.1 c35
    refine lv_iload_n hx hb d_Mod_pack_134 rfl (lv_at hl 4 rfl) ?_
    refine lv_istore_n (lv' := [(3, .int y3), (4, .int t0), (0, .ref (a 7)), (1, .int y1), (2, .int y2), (5, .int y5), (6, .int y6)]) hx hb d_Mod_pack_135 rfl hl (by decide) rfl (fun ls hl => ?_)
    obtain ⟨z36, ez36⟩ : ∃ z : Int32, z = y5 + 1 := ⟨_, rfl⟩
    have h := h z36 ez36
    refine lv_iinc (v := z36) (lv' := [(5, .int z36), (3, .int y3), (4, .int t0), (0, .ref (a 7)), (1, .int y1), (2, .int y2), (6, .int y6)]) hx hb d_Mod_pack_136 hl (k := 5) rfl (by rw [ez36]; exact congrArg (y5 + ·) (by decide)) (by decide) rfl (fun ls hl => ?_)
    refine lv_goto (tgt := 58) hx hb d_Mod_pack_139 (by decide) ?_
    exact hk58 Mod_size Mod_bit Mod_single Mod_runs Mod_longest mf y1 y2 y3 t0 z36 _ _ ls hw (lv_sub hl [3, 4, 5, 1, 2, 0] rfl) h
  · have h := h.2 c35
    refine lv_iload hx hb d_Mod_pack_129 (lv_at hl 6 rfl) ?_
    refine lv_goto (tgt := 135) hx hb d_Mod_pack_131 (by decide) ?_
    refine lv_istore_n (lv' := [(3, .int y6), (4, .int t0), (0, .ref (a 7)), (1, .int y1), (2, .int y2), (5, .int y5), (6, .int y6)]) hx hb d_Mod_pack_135 rfl hl (by decide) rfl (fun ls hl => ?_)
    obtain ⟨z37, ez37⟩ : ∃ z : Int32, z = y5 + 1 := ⟨_, rfl⟩
    have h := h z37 ez37
    refine lv_iinc (v := z37) (lv' := [(5, .int z37), (3, .int y6), (4, .int t0), (0, .ref (a 7)), (1, .int y1), (2, .int y2), (6, .int y6)]) hx hb d_Mod_pack_136 hl (k := 5) rfl (by rw [ez37]; exact congrArg (y5 + ·) (by decide)) (by decide) rfl (fun ls hl => ?_)
    refine lv_goto (tgt := 58) hx hb d_Mod_pack_139 (by decide) ?_
    exact hk58 Mod_size Mod_bit Mod_single Mod_runs Mod_longest mf y1 y2 y6 t0 z37 _ _ ls hw (lv_sub hl [3, 4, 5, 1, 2, 0] rfl) h
set_option maxHeartbeats 2000000 in
set_option maxRecDepth 20000 in
theorem s_Mod_pack_58 {l : Launch} {dC : Nat → ClassId} {dI : Nat → Nat → Nat} {cI : ClassId} {tb : Tbs} {a n : Nat → Nat} {p : Program} {e : Env} {s : State} {m : MethodId} {args : Array Value} {below : List Frame} {meth : Method} {c : Code} {A : Nat → Prop} (E : CallFix p m c prog_9_method_23_code 7 s args TBL "PicturePackerModel") (hr : meth.sig.returnType = none) (hlk : meth.locks = false) {Mod_thrown : Int32} {Mod_width : Int32} {Mod_height : Int32} {Mod_many : Int32} {mr : Nat → Int32} {post : Int32 × Int32 × Int32 × Int32 × Int32 × (Nat → Int32) → Prop} {k17 : Int32 → Int32 → Int32 → Int32 → Int32 → (Nat → Int32) → Int32 → Prop} (hk17 : ∀ (Mod_size : Int32) (Mod_bit : Int32) (Mod_single : Int32) (Mod_runs : Int32) (Mod_longest : Int32) (mf : Nat → Int32) (y1 : Int32) (H : Heap) (locs : List Loc) (ls : Array Slot), Wl classes dC dI cI tb A s H locs [e_Mod a Mod_thrown Mod_width Mod_height Mod_many Mod_size Mod_bit Mod_single Mod_runs Mod_longest, e_ar a n cI 16 mr, e_ar a n cI 17 mf] → lv_has ls 7 [(0, .ref (a 7)), (1, .int y1)] → k17 Mod_size Mod_bit Mod_single Mod_runs Mod_longest mf y1 → W p l e ({ frames := 5, cells := 0, slots := 0, locals := 110 }) s m args below meth c H locs 0 0 (MQ below (va_Qv post (fun u => End0 classes dC dI cI A [e_Mod a Mod_thrown Mod_width Mod_height Mod_many u.1 u.2.1 u.2.2.1 u.2.2.2.1 u.2.2.2.2.1, e_ar a n cI 16 mr, e_ar a n cI 17 u.2.2.2.2.2]) A) args s 0 0 A) (F0 m 17 ls [])) : ∀ (N : Nat) (Mod_size : Int32) (Mod_bit : Int32) (Mod_single : Int32) (Mod_runs : Int32) (Mod_longest : Int32) (mf : Nat → Int32) (y1 : Int32) (y2 : Int32) (y3 : Int32) (y4 : Int32) (y5 : Int32) (H : Heap) (locs : List Loc) (ls : Array Slot), Wl classes dC dI cI tb A s H locs [e_Mod a Mod_thrown Mod_width Mod_height Mod_many Mod_size Mod_bit Mod_single Mod_runs Mod_longest, e_ar a n cI 16 mr, e_ar a n cI 17 mf] → lv_has ls 7 [(0, .ref (a 7)), (1, .int y1), (2, .int y2), (3, .int y3), (4, .int y4), (5, .int y5)] → wp_Mod_pack_58 n Mod_many mr post k17 N Mod_size Mod_bit Mod_single Mod_runs Mod_longest mf y1 y2 y3 y4 y5 → W p l e ({ frames := 5, cells := 0, slots := 0, locals := 110 }) s m args below meth c H locs 0 0 (MQ below (va_Qv post (fun u => End0 classes dC dI cI A [e_Mod a Mod_thrown Mod_width Mod_height Mod_many u.1 u.2.1 u.2.2.1 u.2.2.2.1 u.2.2.2.2.1, e_ar a n cI 16 mr, e_ar a n cI 17 u.2.2.2.2.2]) A) args s 0 0 A) (F0 m 58 ls []) := by
  obtain ⟨hx, hb, hml, hown, hts⟩ := id E
  intro N
  induction N with
  | zero =>
    intro _ _ _ _ _ _ _ _ _ _ _ H locs ls hw hl h
    exact absurd h id
  | succ N ih =>
    intro Mod_size Mod_bit Mod_single Mod_runs Mod_longest mf y1 y2 y3 y4 y5 H locs ls hw hl h
    unfold wp_Mod_pack_58 at h
    refine lv_iload hx hb d_Mod_pack_58 (lv_at hl 5 rfl) ?_
    refine lv_iload_n hx hb d_Mod_pack_60 rfl (lv_at hl 1 rfl) ?_
    refine lv_icmp_gt (tgt := 142) hx hb d_Mod_pack_61 (by decide) (fun c11 => ?_) (fun c11 => ?_)
    · have h := h.1 c11
      exact s_Mod_pack_142 (a := a) (n := n) (tb := tb) E hr hlk hk17 Mod_size Mod_bit Mod_single Mod_runs Mod_longest mf y1 y3 y4 _ _ ls hw (lv_sub hl [0, 1, 3, 4] rfl) h
    · have h := h.2 c11
      refine lv_iload hx hb d_Mod_pack_64 (lv_at hl 5 rfl) ?_
      refine lv_ldc (v := 32768) hx hb hown (hts _ tw531) d_Mod_pack_66 ?_
      refine lv_icmp_gt (tgt := 142) hx hb d_Mod_pack_68 (by decide) (fun c26 => ?_) (fun c26 => ?_)
      · have h := h.1 c26
        exact s_Mod_pack_142 (a := a) (n := n) (tb := tb) E hr hlk hk17 Mod_size Mod_bit Mod_single Mod_runs Mod_longest mf y1 y3 y4 _ _ ls hw (lv_sub hl [0, 1, 3, 4] rfl) h
      · have h := h.2 c26
        refine lv_iload_n hx hb d_Mod_pack_71 rfl (lv_at hl 3 rfl) ?_
        refine lv_iload_n hx hb d_Mod_pack_72 rfl (lv_at hl 2 rfl) ?_
        refine lv_icmp_ge (tgt := 142) hx hb d_Mod_pack_73 (by decide) (fun c27 => ?_) (fun c27 => ?_)
        · have h := h.1 c27
          exact s_Mod_pack_142 (a := a) (n := n) (tb := tb) E hr hlk hk17 Mod_size Mod_bit Mod_single Mod_runs Mod_longest mf y1 y3 y4 _ _ ls hw (lv_sub hl [0, 1, 3, 4] rfl) h
        · have h := h.2 c27
          refine lv_aload_n hx hb d_Mod_pack_76 rfl (lv_at hl 0 rfl) ?_
          refine kget (v := .ref (a 16)) (T := F_Mod) E hw in_Mod rfl 0 4 rfl (by decide) tw433 rfl d_Mod_pack_77 ?_
          refine lv_iload_n hx hb d_Mod_pack_80 rfl (lv_at hl 1 rfl) ?_
          refine lv_iload_n hx hb d_Mod_pack_81 rfl (lv_at hl 3 rfl) ?_
          refine lv_iadd hx hb d_Mod_pack_82 ?_
          obtain ⟨b28, h⟩ := h
          refine kald E hw 1 rfl b28 d_Mod_pack_83 ?_
          refine lv_aload_n hx hb d_Mod_pack_84 rfl (lv_at hl 0 rfl) ?_
          refine kget (v := .ref (a 16)) (T := F_Mod) E hw in_Mod rfl 0 4 rfl (by decide) tw433 rfl d_Mod_pack_85 ?_
          refine lv_iload_n hx hb d_Mod_pack_88 rfl (lv_at hl 1 rfl) ?_
          refine lv_iload_n hx hb d_Mod_pack_89 rfl (lv_at hl 3 rfl) ?_
          refine lv_iadd hx hb d_Mod_pack_90 ?_
          refine lv_iload hx hb d_Mod_pack_91 (lv_at hl 5 rfl) ?_
          refine lv_isub hx hb d_Mod_pack_93 ?_
          obtain ⟨b29, h⟩ := h
          refine kald E hw 1 rfl b29 d_Mod_pack_94 ?_
          refine lv_icmp_ne (tgt := 136) hx hb d_Mod_pack_95 (by decide) (fun c30 => ?_) (fun c30 => ?_)
          · have h := h.1 c30
            obtain ⟨z31, ez31⟩ : ∃ z : Int32, z = y5 + 1 := ⟨_, rfl⟩
            have h := h z31 ez31
            refine lv_iinc (v := z31) (lv' := [(5, .int z31), (0, .ref (a 7)), (1, .int y1), (2, .int y2), (3, .int y3), (4, .int y4)]) hx hb d_Mod_pack_136 hl (k := 5) rfl (by rw [ez31]; exact congrArg (y5 + ·) (by decide)) (by decide) rfl (fun ls hl => ?_)
            refine lv_goto (tgt := 58) hx hb d_Mod_pack_139 (by decide) ?_
            exact ih Mod_size Mod_bit Mod_single Mod_runs Mod_longest mf y1 y2 y3 y4 z31 _ _ ls hw (lv_sub hl [1, 2, 3, 4, 5, 0] rfl) h
          · have h := h.2 c30
            refine lv_aload_n hx hb d_Mod_pack_98 rfl (lv_at hl 0 rfl) ?_
            refine lv_iload_n hx hb d_Mod_pack_99 rfl (lv_at hl 1 rfl) ?_
            refine lv_iload hx hb d_Mod_pack_100 (lv_at hl 5 rfl) ?_
            refine lv_iload_n hx hb d_Mod_pack_102 rfl (lv_at hl 2 rfl) ?_
            refine kVi (y := y_Mod_run) (ws' := fun _ => [e_Mod a Mod_thrown Mod_width Mod_height Mod_many Mod_size Mod_bit Mod_single Mod_runs Mod_longest, e_ar a n cI 16 mr, e_ar a n cI 17 mf]) (wr := [e_ar a n cI 17 mf]) (As := [.int y1, .int y5, .int y2]) (rest := []) E hw (c_Mod_run (l := l) (dC := dC) (dI := dI) (cI := cI) (tb := tb) (a := a) (n := n) (Mod_thrown := Mod_thrown) (Mod_width := Mod_width) (Mod_height := Mod_height) (Mod_many := Mod_many) (Mod_size := Mod_size) (Mod_bit := Mod_bit) (Mod_single := Mod_single) (Mod_runs := Mod_runs) (Mod_longest := Mod_longest) (mr := mr) (x1 := y1) (x2 := y5) (x3 := y2) h) tw532 tw534 tw25 tw42 tw535 3 (by decide) ⟨Nat.le_of_ble_eq_true rfl, Nat.le_of_ble_eq_true rfl⟩ ⟨Nat.le_of_ble_eq_true rfl, Nat.le_of_ble_eq_true rfl⟩ ⟨rfl, rfl⟩ rfl rfl 0 rfl [0, 1] [2] [1, 2, 0] rfl rfl rfl rfl (by decide) rfl (fun _ => rfl) hl.1 rfl rfl (Nat.le_of_ble_eq_true rfl) d_Mod_pack_103 (fun r33 u32 H locs h hw => ?_)
            refine lv_istore (lv' := [(6, .int r33), (0, .ref (a 7)), (1, .int y1), (2, .int y2), (3, .int y3), (4, .int y4), (5, .int y5)]) hx hb d_Mod_pack_106 hl (by decide) rfl (fun ls hl => ?_)
            refine lv_iload hx hb d_Mod_pack_108 (lv_at hl 0 rfl) ?_
            refine lv_iload_n hx hb d_Mod_pack_110 rfl (lv_at hl 4 rfl) ?_
            refine lv_icmp_le (tgt := 119) hx hb d_Mod_pack_111 (by decide) (fun c34 => ?_) (fun c34 => ?_)
            · have h := h.1 c34
              refine lv_iload hx hb d_Mod_pack_119 (lv_at hl 5 rfl) ?_
              exact s_Mod_pack_121 (a := a) (n := n) (tb := tb) E hr hlk hk17 ih Mod_size Mod_bit Mod_single Mod_runs Mod_longest mf y4 y1 y2 y3 y5 r33 _ _ ls hw (lv_sub hl [1, 2, 3, 4, 6, 0] rfl) h
            · have h := h.2 c34
              refine lv_iload hx hb d_Mod_pack_114 (lv_at hl 6 rfl) ?_
              refine lv_goto (tgt := 121) hx hb d_Mod_pack_116 (by decide) ?_
              exact s_Mod_pack_121 (a := a) (n := n) (tb := tb) E hr hlk hk17 ih Mod_size Mod_bit Mod_single Mod_runs Mod_longest mf y5 y1 y2 y3 y5 r33 _ _ ls hw (lv_sub hl [1, 2, 3, 4, 6, 0] rfl) h
set_option maxHeartbeats 2000000 in
set_option maxRecDepth 20000 in
theorem s_Mod_pack_17 {l : Launch} {dC : Nat → ClassId} {dI : Nat → Nat → Nat} {cI : ClassId} {tb : Tbs} {a n : Nat → Nat} {p : Program} {e : Env} {s : State} {m : MethodId} {args : Array Value} {below : List Frame} {meth : Method} {c : Code} {A : Nat → Prop} (E : CallFix p m c prog_9_method_23_code 7 s args TBL "PicturePackerModel") (hr : meth.sig.returnType = none) (hlk : meth.locks = false) {Mod_thrown : Int32} {Mod_width : Int32} {Mod_height : Int32} {Mod_many : Int32} {mr : Nat → Int32} {post : Int32 × Int32 × Int32 × Int32 × Int32 × (Nat → Int32) → Prop} : ∀ (N : Nat) (Mod_size : Int32) (Mod_bit : Int32) (Mod_single : Int32) (Mod_runs : Int32) (Mod_longest : Int32) (mf : Nat → Int32) (y1 : Int32) (H : Heap) (locs : List Loc) (ls : Array Slot), Wl classes dC dI cI tb A s H locs [e_Mod a Mod_thrown Mod_width Mod_height Mod_many Mod_size Mod_bit Mod_single Mod_runs Mod_longest, e_ar a n cI 16 mr, e_ar a n cI 17 mf] → lv_has ls 7 [(0, .ref (a 7)), (1, .int y1)] → wp_Mod_pack_17 n Mod_many mr post N Mod_size Mod_bit Mod_single Mod_runs Mod_longest mf y1 → W p l e ({ frames := 5, cells := 0, slots := 0, locals := 110 }) s m args below meth c H locs 0 0 (MQ below (va_Qv post (fun u => End0 classes dC dI cI A [e_Mod a Mod_thrown Mod_width Mod_height Mod_many u.1 u.2.1 u.2.2.1 u.2.2.2.1 u.2.2.2.2.1, e_ar a n cI 16 mr, e_ar a n cI 17 u.2.2.2.2.2]) A) args s 0 0 A) (F0 m 17 ls []) := by
  obtain ⟨hx, hb, hml, hown, hts⟩ := id E
  intro N
  induction N with
  | zero =>
    intro _ _ _ _ _ _ _ H locs ls hw hl h
    exact absurd h id
  | succ N ih =>
    intro Mod_size Mod_bit Mod_single Mod_runs Mod_longest mf y1 H locs ls hw hl h
    unfold wp_Mod_pack_17 at h
    refine lv_iload_n hx hb d_Mod_pack_17 rfl (lv_at hl 1 rfl) ?_
    refine lv_aload_n hx hb d_Mod_pack_18 rfl (lv_at hl 0 rfl) ?_
    refine kget (v := .int Mod_many) (T := F_Mod) E hw in_Mod rfl 0 5 rfl (by decide) tw434 rfl d_Mod_pack_19 ?_
    refine lv_icmp_ge (tgt := 221) hx hb d_Mod_pack_22 (by decide) (fun c7 => ?_) (fun c7 => ?_)
    · have h := h.1 c7
      refine lv_aload_n hx hb d_Mod_pack_221 rfl (lv_at hl 0 rfl) ?_
      refine lv_sipush (v := 256) hx hb d_Mod_pack_222 (by decide) ?_
      refine kVv (y := y_Mod_sign) (ws' := fun u8 => [e_Mod a Mod_thrown Mod_width Mod_height Mod_many u8.1 u8.2.1 Mod_single Mod_runs Mod_longest, e_ar a n cI 16 mr, e_ar a n cI 17 u8.2.2]) (wr := [e_ar a n cI 16 mr]) (As := [.int 256]) (rest := []) E hw (c_Mod_sign (l := l) (dC := dC) (dI := dI) (cI := cI) (tb := tb) (a := a) (n := n) (Mod_thrown := Mod_thrown) (Mod_width := Mod_width) (Mod_height := Mod_height) (Mod_many := Mod_many) (Mod_size := Mod_size) (Mod_bit := Mod_bit) (Mod_single := Mod_single) (Mod_runs := Mod_runs) (Mod_longest := Mod_longest) (mf := mf) (x1 := 256) h) tw540 tw542 tw27 tw42 tw543 1 (by decide) ⟨Nat.le_of_ble_eq_true rfl, Nat.le_of_ble_eq_true rfl⟩ ⟨Nat.le_of_ble_eq_true rfl, Nat.le_of_ble_eq_true rfl⟩ ⟨rfl, rfl⟩ rfl rfl 0 rfl [0, 2] [1] [1, 0, 2] rfl rfl rfl rfl (by decide) rfl (fun _ => rfl) hl.1 rfl rfl (Nat.le_of_ble_eq_true rfl) d_Mod_pack_225 (fun u8 H locs h hw => ?_)
      refine lv_aload_n hx hb d_Mod_pack_228 rfl (lv_at hl 0 rfl) ?_
      refine lv_iconst (v := 0) hx hb d_Mod_pack_229 (by decide) ?_
      refine kput (v := .int 0) (ty := .int) (T := F_Mod) (ws' := [e_Mod a Mod_thrown Mod_width Mod_height Mod_many u8.1 0 Mod_single Mod_runs Mod_longest, e_ar a n cI 16 mr, e_ar a n cI 17 u8.2.2]) E hw in_Mod t_Mod t_Mod_ok n_Mod rfl 0 8 rfl (by decide) tw437 rfl rfl rfl rfl (Nat.le_of_ble_eq_true rfl) rfl d_Mod_pack_230 (fun H locs hw => ?_)
      exact retV (out := fun u => [e_Mod a Mod_thrown Mod_width Mod_height Mod_many u.1 u.2.1 u.2.2.1 u.2.2.2.1 u.2.2.2.2.1, e_ar a n cI 16 mr, e_ar a n cI 17 u.2.2.2.2.2]) (u := (u8.1, 0, Mod_single, Mod_runs, Mod_longest, u8.2.2)) E hr hlk hw h d_Mod_pack_233
    · have h := h.2 c7
      refine lv_aload_n hx hb d_Mod_pack_25 rfl (lv_at hl 0 rfl) ?_
      refine kget (v := .int Mod_many) (T := F_Mod) E hw in_Mod rfl 0 5 rfl (by decide) tw434 rfl d_Mod_pack_26 ?_
      refine lv_iload_n hx hb d_Mod_pack_29 rfl (lv_at hl 1 rfl) ?_
      refine lv_isub hx hb d_Mod_pack_30 ?_
      refine lv_sipush (v := 258) hx hb d_Mod_pack_31 (by decide) ?_
      refine lv_icmp_ge (tgt := 46) hx hb d_Mod_pack_34 (by decide) (fun c10 => ?_) (fun c10 => ?_)
      · have h := h.1 c10
        refine lv_sipush (v := 258) hx hb d_Mod_pack_46 (by decide) ?_
        refine lv_istore_n (lv' := [(2, .int 258), (0, .ref (a 7)), (1, .int y1)]) hx hb d_Mod_pack_49 rfl hl (by decide) rfl (fun ls hl => ?_)
        refine lv_iconst (v := 2) hx hb d_Mod_pack_50 (by decide) ?_
        refine lv_istore_n (lv' := [(3, .int 2), (2, .int 258), (0, .ref (a 7)), (1, .int y1)]) hx hb d_Mod_pack_51 rfl hl (by decide) rfl (fun ls hl => ?_)
        refine lv_iconst (v := 0) hx hb d_Mod_pack_52 (by decide) ?_
        refine lv_istore (lv' := [(4, .int 0), (3, .int 2), (2, .int 258), (0, .ref (a 7)), (1, .int y1)]) hx hb d_Mod_pack_53 hl (by decide) rfl (fun ls hl => ?_)
        refine lv_iconst (v := 1) hx hb d_Mod_pack_55 (by decide) ?_
        refine lv_istore (lv' := [(5, .int 1), (4, .int 0), (3, .int 2), (2, .int 258), (0, .ref (a 7)), (1, .int y1)]) hx hb d_Mod_pack_56 hl (by decide) rfl (fun ls hl => ?_)
        obtain ⟨N38, h⟩ := h
        exact s_Mod_pack_58 (a := a) (n := n) (tb := tb) E hr hlk ih N38 Mod_size Mod_bit Mod_single Mod_runs Mod_longest mf y1 258 2 0 1 _ _ ls hw (lv_sub hl [4, 5, 3, 2, 1, 0] rfl) h
      · have h := h.2 c10
        refine lv_aload_n hx hb d_Mod_pack_37 rfl (lv_at hl 0 rfl) ?_
        refine kget (v := .int Mod_many) (T := F_Mod) E hw in_Mod rfl 0 5 rfl (by decide) tw434 rfl d_Mod_pack_38 ?_
        refine lv_iload_n hx hb d_Mod_pack_41 rfl (lv_at hl 1 rfl) ?_
        refine lv_isub hx hb d_Mod_pack_42 ?_
        refine lv_goto (tgt := 49) hx hb d_Mod_pack_43 (by decide) ?_
        refine lv_topi (fun z39 ez39 => ?_)
        have h := h z39 ez39
        refine lv_istore_n (lv' := [(2, .int z39), (0, .ref (a 7)), (1, .int y1)]) hx hb d_Mod_pack_49 rfl hl (by decide) rfl (fun ls hl => ?_)
        refine lv_iconst (v := 2) hx hb d_Mod_pack_50 (by decide) ?_
        refine lv_istore_n (lv' := [(3, .int 2), (2, .int z39), (0, .ref (a 7)), (1, .int y1)]) hx hb d_Mod_pack_51 rfl hl (by decide) rfl (fun ls hl => ?_)
        refine lv_iconst (v := 0) hx hb d_Mod_pack_52 (by decide) ?_
        refine lv_istore (lv' := [(4, .int 0), (3, .int 2), (2, .int z39), (0, .ref (a 7)), (1, .int y1)]) hx hb d_Mod_pack_53 hl (by decide) rfl (fun ls hl => ?_)
        refine lv_iconst (v := 1) hx hb d_Mod_pack_55 (by decide) ?_
        refine lv_istore (lv' := [(5, .int 1), (4, .int 0), (3, .int 2), (2, .int z39), (0, .ref (a 7)), (1, .int y1)]) hx hb d_Mod_pack_56 hl (by decide) rfl (fun ls hl => ?_)
        obtain ⟨N40, h⟩ := h
        exact s_Mod_pack_58 (a := a) (n := n) (tb := tb) E hr hlk ih N40 Mod_size Mod_bit Mod_single Mod_runs Mod_longest mf y1 z39 2 0 1 _ _ ls hw (lv_sub hl [4, 5, 3, 2, 1, 0] rfl) h
set_option maxHeartbeats 2000000 in
set_option maxRecDepth 20000 in
theorem c_Mod_pack {l : Launch} {dC : Nat → ClassId} {dI : Nat → Nat → Nat} {cI : ClassId} {tb : Tbs} {a n : Nat → Nat} {Mod_thrown : Int32} {Mod_width : Int32} {Mod_height : Int32} {Mod_many : Int32} {Mod_size : Int32} {Mod_bit : Int32} {Mod_single : Int32} {Mod_runs : Int32} {Mod_longest : Int32} {mr : Nat → Int32} {mf : Nat → Int32} {post : Int32 × Int32 × Int32 × Int32 × Int32 × (Nat → Int32) → Prop} (h : wp_Mod_pack n Mod_many Mod_size Mod_bit Mod_single Mod_runs Mod_longest mr mf post) : CtV classes dC dI cI tb l y_Mod_pack prog_9_method_23_code 7 ({ frames := 5, cells := 0, slots := 0, locals := 110 }) [.ref (a 7)] [e_Mod a Mod_thrown Mod_width Mod_height Mod_many Mod_size Mod_bit Mod_single Mod_runs Mod_longest, e_ar a n cI 16 mr, e_ar a n cI 17 mf] (Int32 × Int32 × Int32 × Int32 × Int32 × (Nat → Int32)) (fun u => [e_Mod a Mod_thrown Mod_width Mod_height Mod_many u.1 u.2.1 u.2.2.1 u.2.2.2.1 u.2.2.2.2.1, e_ar a n cI 16 mr, e_ar a n cI 17 u.2.2.2.2.2]) post := by
  refine startV (by decide) (Nat.le_of_ble_eq_true rfl) ?_
  intro p e s m below meth c ls E hr hlk hnm hl hw
  have hl : lv_has ls 7 [(0, .ref (a 7))] := hl
  generalize va_A [e_Mod a Mod_thrown Mod_width Mod_height Mod_many Mod_size Mod_bit Mod_single Mod_runs Mod_longest, e_ar a n cI 16 mr, e_ar a n cI 17 mf] s.heap.size = A at hw ⊢
  obtain ⟨hx, hb, hml, hown, hts⟩ := id E
  unfold wp_Mod_pack at h
  refine lv_aload_n hx hb d_Mod_pack_0 rfl (lv_at hl 0 rfl) ?_
  refine lv_iconst (v := 1) hx hb d_Mod_pack_1 (by decide) ?_
  refine kVv (y := y_Mod_next) (ws' := fun u1 => [e_Mod a Mod_thrown Mod_width Mod_height Mod_many u1.1 u1.2.1 Mod_single Mod_runs Mod_longest, e_ar a n cI 16 mr, e_ar a n cI 17 u1.2.2]) (wr := [e_ar a n cI 16 mr]) (As := [.int 1]) (rest := []) E hw (c_Mod_next (l := l) (dC := dC) (dI := dI) (cI := cI) (tb := tb) (a := a) (n := n) (Mod_thrown := Mod_thrown) (Mod_width := Mod_width) (Mod_height := Mod_height) (Mod_many := Mod_many) (Mod_size := Mod_size) (Mod_bit := Mod_bit) (Mod_single := Mod_single) (Mod_runs := Mod_runs) (Mod_longest := Mod_longest) (mf := mf) (x1 := 1) h) tw527 tw529 tw24 tw42 tw530 1 (by decide) ⟨Nat.le_of_ble_eq_true rfl, Nat.le_of_ble_eq_true rfl⟩ ⟨Nat.le_of_ble_eq_true rfl, Nat.le_of_ble_eq_true rfl⟩ ⟨rfl, rfl⟩ rfl rfl 0 rfl [0, 2] [1] [1, 0, 2] rfl rfl rfl rfl (by decide) rfl (fun _ => rfl) hl.1 rfl rfl (Nat.le_of_ble_eq_true rfl) d_Mod_pack_2 (fun u1 H locs h hw => ?_)
  refine lv_aload_n hx hb d_Mod_pack_5 rfl (lv_at hl 0 rfl) ?_
  refine lv_iconst (v := 1) hx hb d_Mod_pack_6 (by decide) ?_
  refine kVv (y := y_Mod_next) (ws' := fun u3 => [e_Mod a Mod_thrown Mod_width Mod_height Mod_many u3.1 u3.2.1 Mod_single Mod_runs Mod_longest, e_ar a n cI 16 mr, e_ar a n cI 17 u3.2.2]) (wr := [e_ar a n cI 16 mr]) (As := [.int 1]) (rest := []) E hw (c_Mod_next (l := l) (dC := dC) (dI := dI) (cI := cI) (tb := tb) (a := a) (n := n) (Mod_thrown := Mod_thrown) (Mod_width := Mod_width) (Mod_height := Mod_height) (Mod_many := Mod_many) (Mod_size := u1.1) (Mod_bit := u1.2.1) (Mod_single := Mod_single) (Mod_runs := Mod_runs) (Mod_longest := Mod_longest) (mf := u1.2.2) (x1 := 1) h) tw527 tw529 tw24 tw42 tw530 1 (by decide) ⟨Nat.le_of_ble_eq_true rfl, Nat.le_of_ble_eq_true rfl⟩ ⟨Nat.le_of_ble_eq_true rfl, Nat.le_of_ble_eq_true rfl⟩ ⟨rfl, rfl⟩ rfl rfl 0 rfl [0, 2] [1] [1, 0, 2] rfl rfl rfl rfl (by decide) rfl (fun _ => rfl) hl.1 rfl rfl (Nat.le_of_ble_eq_true rfl) d_Mod_pack_7 (fun u3 H locs h hw => ?_)
  refine lv_aload_n hx hb d_Mod_pack_10 rfl (lv_at hl 0 rfl) ?_
  refine lv_iconst (v := 0) hx hb d_Mod_pack_11 (by decide) ?_
  refine kVv (y := y_Mod_next) (ws' := fun u5 => [e_Mod a Mod_thrown Mod_width Mod_height Mod_many u5.1 u5.2.1 Mod_single Mod_runs Mod_longest, e_ar a n cI 16 mr, e_ar a n cI 17 u5.2.2]) (wr := [e_ar a n cI 16 mr]) (As := [.int 0]) (rest := []) E hw (c_Mod_next (l := l) (dC := dC) (dI := dI) (cI := cI) (tb := tb) (a := a) (n := n) (Mod_thrown := Mod_thrown) (Mod_width := Mod_width) (Mod_height := Mod_height) (Mod_many := Mod_many) (Mod_size := u3.1) (Mod_bit := u3.2.1) (Mod_single := Mod_single) (Mod_runs := Mod_runs) (Mod_longest := Mod_longest) (mf := u3.2.2) (x1 := 0) h) tw527 tw529 tw24 tw42 tw530 1 (by decide) ⟨Nat.le_of_ble_eq_true rfl, Nat.le_of_ble_eq_true rfl⟩ ⟨Nat.le_of_ble_eq_true rfl, Nat.le_of_ble_eq_true rfl⟩ ⟨rfl, rfl⟩ rfl rfl 0 rfl [0, 2] [1] [1, 0, 2] rfl rfl rfl rfl (by decide) rfl (fun _ => rfl) hl.1 rfl rfl (Nat.le_of_ble_eq_true rfl) d_Mod_pack_12 (fun u5 H locs h hw => ?_)
  refine lv_iconst (v := 0) hx hb d_Mod_pack_15 (by decide) ?_
  refine lv_istore_n (lv' := [(1, .int 0), (0, .ref (a 7))]) hx hb d_Mod_pack_16 rfl hl (by decide) rfl (fun ls hl => ?_)
  obtain ⟨N41, h⟩ := h
  exact s_Mod_pack_17 (a := a) (n := n) (tb := tb) E hr hlk  N41 u5.1 u5.2.1 Mod_single Mod_runs Mod_longest u5.2.2 0 _ _ ls hw (lv_sub hl [1, 0] rfl) h
-- PicturePackerModel.sum()V
theorem d_Mod_sum_0 : decode prog_9_method_24_code 0 = .ok (.iconst 1, 1) := by decide +kernel
theorem d_Mod_sum_1 : decode prog_9_method_24_code 1 = .ok (.istore_n 1, 1) := by decide +kernel
theorem d_Mod_sum_2 : decode prog_9_method_24_code 2 = .ok (.iconst 0, 1) := by decide +kernel
theorem d_Mod_sum_3 : decode prog_9_method_24_code 3 = .ok (.istore_n 2, 1) := by decide +kernel
theorem d_Mod_sum_4 : decode prog_9_method_24_code 4 = .ok (.iconst 0, 1) := by decide +kernel
theorem d_Mod_sum_5 : decode prog_9_method_24_code 5 = .ok (.istore_n 3, 1) := by decide +kernel
theorem d_Mod_sum_6 : decode prog_9_method_24_code 6 = .ok (.iload_n 3, 1) := by decide +kernel
theorem d_Mod_sum_7 : decode prog_9_method_24_code 7 = .ok (.aload_n 0, 1) := by decide +kernel
theorem d_Mod_sum_8 : decode prog_9_method_24_code 8 = .ok (.getfield 45, 3) := by decide +kernel
theorem d_Mod_sum_11 : decode prog_9_method_24_code 11 = .ok (.if_icmp .ge 28, 3) := by decide +kernel
theorem d_Mod_sum_14 : decode prog_9_method_24_code 14 = .ok (.iload_n 1, 1) := by decide +kernel
theorem d_Mod_sum_15 : decode prog_9_method_24_code 15 = .ok (.aload_n 0, 1) := by decide +kernel
theorem d_Mod_sum_16 : decode prog_9_method_24_code 16 = .ok (.getfield 13, 3) := by decide +kernel
theorem d_Mod_sum_19 : decode prog_9_method_24_code 19 = .ok (.iload_n 3, 1) := by decide +kernel
theorem d_Mod_sum_20 : decode prog_9_method_24_code 20 = .ok (.iaload, 1) := by decide +kernel
theorem d_Mod_sum_21 : decode prog_9_method_24_code 21 = .ok (.iadd, 1) := by decide +kernel
theorem d_Mod_sum_22 : decode prog_9_method_24_code 22 = .ok (.ldc 97, 2) := by decide +kernel
theorem d_Mod_sum_24 : decode prog_9_method_24_code 24 = .ok (.irem, 1) := by decide +kernel
theorem d_Mod_sum_25 : decode prog_9_method_24_code 25 = .ok (.istore_n 1, 1) := by decide +kernel
theorem d_Mod_sum_26 : decode prog_9_method_24_code 26 = .ok (.iload_n 2, 1) := by decide +kernel
theorem d_Mod_sum_27 : decode prog_9_method_24_code 27 = .ok (.iload_n 1, 1) := by decide +kernel
theorem d_Mod_sum_28 : decode prog_9_method_24_code 28 = .ok (.iadd, 1) := by decide +kernel
theorem d_Mod_sum_29 : decode prog_9_method_24_code 29 = .ok (.ldc 97, 2) := by decide +kernel
theorem d_Mod_sum_31 : decode prog_9_method_24_code 31 = .ok (.irem, 1) := by decide +kernel
theorem d_Mod_sum_32 : decode prog_9_method_24_code 32 = .ok (.istore_n 2, 1) := by decide +kernel
theorem d_Mod_sum_33 : decode prog_9_method_24_code 33 = .ok (.iinc 3 1, 3) := by decide +kernel
theorem d_Mod_sum_36 : decode prog_9_method_24_code 36 = .ok (.goto (-30), 3) := by decide +kernel
theorem d_Mod_sum_39 : decode prog_9_method_24_code 39 = .ok (.aload_n 0, 1) := by decide +kernel
theorem d_Mod_sum_40 : decode prog_9_method_24_code 40 = .ok (.iload_n 2, 1) := by decide +kernel
theorem d_Mod_sum_41 : decode prog_9_method_24_code 41 = .ok (.bipush 8, 2) := by decide +kernel
theorem d_Mod_sum_43 : decode prog_9_method_24_code 43 = .ok (.ishr, 1) := by decide +kernel
theorem d_Mod_sum_44 : decode prog_9_method_24_code 44 = .ok (.invokevirtual 54, 3) := by decide +kernel
theorem d_Mod_sum_47 : decode prog_9_method_24_code 47 = .ok (.aload_n 0, 1) := by decide +kernel
theorem d_Mod_sum_48 : decode prog_9_method_24_code 48 = .ok (.iload_n 2, 1) := by decide +kernel
theorem d_Mod_sum_49 : decode prog_9_method_24_code 49 = .ok (.invokevirtual 54, 3) := by decide +kernel
theorem d_Mod_sum_52 : decode prog_9_method_24_code 52 = .ok (.aload_n 0, 1) := by decide +kernel
theorem d_Mod_sum_53 : decode prog_9_method_24_code 53 = .ok (.iload_n 1, 1) := by decide +kernel
theorem d_Mod_sum_54 : decode prog_9_method_24_code 54 = .ok (.bipush 8, 2) := by decide +kernel
theorem d_Mod_sum_56 : decode prog_9_method_24_code 56 = .ok (.ishr, 1) := by decide +kernel
theorem d_Mod_sum_57 : decode prog_9_method_24_code 57 = .ok (.invokevirtual 54, 3) := by decide +kernel
theorem d_Mod_sum_60 : decode prog_9_method_24_code 60 = .ok (.aload_n 0, 1) := by decide +kernel
theorem d_Mod_sum_61 : decode prog_9_method_24_code 61 = .ok (.iload_n 1, 1) := by decide +kernel
theorem d_Mod_sum_62 : decode prog_9_method_24_code 62 = .ok (.invokevirtual 54, 3) := by decide +kernel
theorem d_Mod_sum_65 : decode prog_9_method_24_code 65 = .ok (.return_, 1) := by decide +kernel
abbrev y_Mod_sum : MethodName := ⟨"PicturePackerModel", "sum", "()V"⟩
def wp_Mod_sum_6 (n : Nat → Nat) (Mod_many : Int32) (mr : Nat → Int32) (post : Int32 × (Nat → Int32) → Prop) : Nat → Int32 → (Nat → Int32) → Int32 → Int32 → Int32 → Prop
  | 0 => fun _ _ _ _ _ => False
  | N + 1 => fun Mod_size mf y1 y2 y3 => ((Mod_many : Int32) ≤ y3 → (wp_Mod_one n Mod_size mf ((y2 : Int32) >>> (8 &&& 31)) (fun u2 => wp_Mod_one n u2.1 u2.2 y2 (fun u4 => wp_Mod_one n u4.1 u4.2 ((y1 : Int32) >>> (8 &&& 31)) (fun u6 => wp_Mod_one n u6.1 u6.2 y1 (fun u8 => post (u8.1, u8.2))))))) ∧ (¬ ((Mod_many : Int32) ≤ y3) → (vp_in y3 (n 16) ∧ (∀ z11 : Int32, z11 = ((y1 + (mr (y3 : Int32).toNatClampNeg)) - (y1 + (mr (y3 : Int32).toNatClampNeg)) / 65521 * 65521) → (∀ z12 : Int32, z12 = ((y2 + z11) - (y2 + z11) / 65521 * 65521) → (∀ z13 : Int32, z13 = (y3 + 1) → (wp_Mod_sum_6 n Mod_many mr post N Mod_size mf z11 z12 z13))))))
def wp_Mod_sum (n : Nat → Nat) (Mod_many : Int32) (Mod_size : Int32) (mr : Nat → Int32) (mf : Nat → Int32) (post : Int32 × (Nat → Int32) → Prop) : Prop := ∃ N14 : Nat, wp_Mod_sum_6 n Mod_many mr post N14 Mod_size mf 1 0 0
set_option maxHeartbeats 2000000 in
set_option maxRecDepth 20000 in
theorem s_Mod_sum_6 {l : Launch} {dC : Nat → ClassId} {dI : Nat → Nat → Nat} {cI : ClassId} {tb : Tbs} {a n : Nat → Nat} {p : Program} {e : Env} {s : State} {m : MethodId} {args : Array Value} {below : List Frame} {meth : Method} {c : Code} {A : Nat → Prop} (E : CallFix p m c prog_9_method_24_code 4 s args TBL "PicturePackerModel") (hr : meth.sig.returnType = none) (hlk : meth.locks = false) {Mod_thrown : Int32} {Mod_width : Int32} {Mod_height : Int32} {Mod_many : Int32} {Mod_bit : Int32} {Mod_single : Int32} {Mod_runs : Int32} {Mod_longest : Int32} {mr : Nat → Int32} {post : Int32 × (Nat → Int32) → Prop} : ∀ (N : Nat) (Mod_size : Int32) (mf : Nat → Int32) (y1 : Int32) (y2 : Int32) (y3 : Int32) (H : Heap) (locs : List Loc) (ls : Array Slot), Wl classes dC dI cI tb A s H locs [e_Mod a Mod_thrown Mod_width Mod_height Mod_many Mod_size Mod_bit Mod_single Mod_runs Mod_longest, e_ar a n cI 16 mr, e_ar a n cI 17 mf] → lv_has ls 4 [(0, .ref (a 7)), (1, .int y1), (2, .int y2), (3, .int y3)] → wp_Mod_sum_6 n Mod_many mr post N Mod_size mf y1 y2 y3 → W p l e ({ frames := 1, cells := 0, slots := 0, locals := 21 }) s m args below meth c H locs 0 0 (MQ below (va_Qv post (fun u => End0 classes dC dI cI A [e_Mod a Mod_thrown Mod_width Mod_height Mod_many u.1 Mod_bit Mod_single Mod_runs Mod_longest, e_ar a n cI 16 mr, e_ar a n cI 17 u.2]) A) args s 0 0 A) (F0 m 6 ls []) := by
  obtain ⟨hx, hb, hml, hown, hts⟩ := id E
  intro N
  induction N with
  | zero =>
    intro _ _ _ _ _ H locs ls hw hl h
    exact absurd h id
  | succ N ih =>
    intro Mod_size mf y1 y2 y3 H locs ls hw hl h
    unfold wp_Mod_sum_6 at h
    refine lv_iload_n hx hb d_Mod_sum_6 rfl (lv_at hl 3 rfl) ?_
    refine lv_aload_n hx hb d_Mod_sum_7 rfl (lv_at hl 0 rfl) ?_
    refine kget (v := .int Mod_many) (T := F_Mod) E hw in_Mod rfl 0 5 rfl (by decide) tw434 rfl d_Mod_sum_8 ?_
    refine lv_icmp_ge (tgt := 39) hx hb d_Mod_sum_11 (by decide) (fun c1 => ?_) (fun c1 => ?_)
    · have h := h.1 c1
      refine lv_aload_n hx hb d_Mod_sum_39 rfl (lv_at hl 0 rfl) ?_
      refine lv_iload_n hx hb d_Mod_sum_40 rfl (lv_at hl 2 rfl) ?_
      refine lv_bipush (v := 8) hx hb d_Mod_sum_41 (by decide) ?_
      refine lv_ishr hx hb d_Mod_sum_43 ?_
      refine kVv (y := y_Mod_one) (ws' := fun u2 => [e_Mod a Mod_thrown Mod_width Mod_height Mod_many u2.1 Mod_bit Mod_single Mod_runs Mod_longest, e_ar a n cI 16 mr, e_ar a n cI 17 u2.2]) (wr := [e_ar a n cI 16 mr]) (As := [.int ((y2 : Int32) >>> (8 &&& 31))]) (rest := []) E hw (c_Mod_one (l := l) (dC := dC) (dI := dI) (cI := cI) (tb := tb) (a := a) (n := n) (Mod_thrown := Mod_thrown) (Mod_width := Mod_width) (Mod_height := Mod_height) (Mod_many := Mod_many) (Mod_size := Mod_size) (Mod_bit := Mod_bit) (Mod_single := Mod_single) (Mod_runs := Mod_runs) (Mod_longest := Mod_longest) (mf := mf) (x1 := (y2 : Int32) >>> (8 &&& 31)) h) tw510 tw512 tw20 tw42 tw513 1 (by decide) ⟨Nat.le_of_ble_eq_true rfl, Nat.le_of_ble_eq_true rfl⟩ ⟨Nat.le_of_ble_eq_true rfl, Nat.le_of_ble_eq_true rfl⟩ ⟨rfl, rfl⟩ rfl rfl 0 rfl [0, 2] [1] [1, 0, 2] rfl rfl rfl rfl (by decide) rfl (fun _ => rfl) hl.1 rfl rfl (Nat.le_of_ble_eq_true rfl) d_Mod_sum_44 (fun u2 H locs h hw => ?_)
      refine lv_aload_n hx hb d_Mod_sum_47 rfl (lv_at hl 0 rfl) ?_
      refine lv_iload_n hx hb d_Mod_sum_48 rfl (lv_at hl 2 rfl) ?_
      refine kVv (y := y_Mod_one) (ws' := fun u4 => [e_Mod a Mod_thrown Mod_width Mod_height Mod_many u4.1 Mod_bit Mod_single Mod_runs Mod_longest, e_ar a n cI 16 mr, e_ar a n cI 17 u4.2]) (wr := [e_ar a n cI 16 mr]) (As := [.int y2]) (rest := []) E hw (c_Mod_one (l := l) (dC := dC) (dI := dI) (cI := cI) (tb := tb) (a := a) (n := n) (Mod_thrown := Mod_thrown) (Mod_width := Mod_width) (Mod_height := Mod_height) (Mod_many := Mod_many) (Mod_size := u2.1) (Mod_bit := Mod_bit) (Mod_single := Mod_single) (Mod_runs := Mod_runs) (Mod_longest := Mod_longest) (mf := u2.2) (x1 := y2) h) tw510 tw512 tw20 tw42 tw513 1 (by decide) ⟨Nat.le_of_ble_eq_true rfl, Nat.le_of_ble_eq_true rfl⟩ ⟨Nat.le_of_ble_eq_true rfl, Nat.le_of_ble_eq_true rfl⟩ ⟨rfl, rfl⟩ rfl rfl 0 rfl [0, 2] [1] [1, 0, 2] rfl rfl rfl rfl (by decide) rfl (fun _ => rfl) hl.1 rfl rfl (Nat.le_of_ble_eq_true rfl) d_Mod_sum_49 (fun u4 H locs h hw => ?_)
      refine lv_aload_n hx hb d_Mod_sum_52 rfl (lv_at hl 0 rfl) ?_
      refine lv_iload_n hx hb d_Mod_sum_53 rfl (lv_at hl 1 rfl) ?_
      refine lv_bipush (v := 8) hx hb d_Mod_sum_54 (by decide) ?_
      refine lv_ishr hx hb d_Mod_sum_56 ?_
      refine kVv (y := y_Mod_one) (ws' := fun u6 => [e_Mod a Mod_thrown Mod_width Mod_height Mod_many u6.1 Mod_bit Mod_single Mod_runs Mod_longest, e_ar a n cI 16 mr, e_ar a n cI 17 u6.2]) (wr := [e_ar a n cI 16 mr]) (As := [.int ((y1 : Int32) >>> (8 &&& 31))]) (rest := []) E hw (c_Mod_one (l := l) (dC := dC) (dI := dI) (cI := cI) (tb := tb) (a := a) (n := n) (Mod_thrown := Mod_thrown) (Mod_width := Mod_width) (Mod_height := Mod_height) (Mod_many := Mod_many) (Mod_size := u4.1) (Mod_bit := Mod_bit) (Mod_single := Mod_single) (Mod_runs := Mod_runs) (Mod_longest := Mod_longest) (mf := u4.2) (x1 := (y1 : Int32) >>> (8 &&& 31)) h) tw510 tw512 tw20 tw42 tw513 1 (by decide) ⟨Nat.le_of_ble_eq_true rfl, Nat.le_of_ble_eq_true rfl⟩ ⟨Nat.le_of_ble_eq_true rfl, Nat.le_of_ble_eq_true rfl⟩ ⟨rfl, rfl⟩ rfl rfl 0 rfl [0, 2] [1] [1, 0, 2] rfl rfl rfl rfl (by decide) rfl (fun _ => rfl) hl.1 rfl rfl (Nat.le_of_ble_eq_true rfl) d_Mod_sum_57 (fun u6 H locs h hw => ?_)
      refine lv_aload_n hx hb d_Mod_sum_60 rfl (lv_at hl 0 rfl) ?_
      refine lv_iload_n hx hb d_Mod_sum_61 rfl (lv_at hl 1 rfl) ?_
      refine kVv (y := y_Mod_one) (ws' := fun u8 => [e_Mod a Mod_thrown Mod_width Mod_height Mod_many u8.1 Mod_bit Mod_single Mod_runs Mod_longest, e_ar a n cI 16 mr, e_ar a n cI 17 u8.2]) (wr := [e_ar a n cI 16 mr]) (As := [.int y1]) (rest := []) E hw (c_Mod_one (l := l) (dC := dC) (dI := dI) (cI := cI) (tb := tb) (a := a) (n := n) (Mod_thrown := Mod_thrown) (Mod_width := Mod_width) (Mod_height := Mod_height) (Mod_many := Mod_many) (Mod_size := u6.1) (Mod_bit := Mod_bit) (Mod_single := Mod_single) (Mod_runs := Mod_runs) (Mod_longest := Mod_longest) (mf := u6.2) (x1 := y1) h) tw510 tw512 tw20 tw42 tw513 1 (by decide) ⟨Nat.le_of_ble_eq_true rfl, Nat.le_of_ble_eq_true rfl⟩ ⟨Nat.le_of_ble_eq_true rfl, Nat.le_of_ble_eq_true rfl⟩ ⟨rfl, rfl⟩ rfl rfl 0 rfl [0, 2] [1] [1, 0, 2] rfl rfl rfl rfl (by decide) rfl (fun _ => rfl) hl.1 rfl rfl (Nat.le_of_ble_eq_true rfl) d_Mod_sum_62 (fun u8 H locs h hw => ?_)
      exact retV (out := fun u => [e_Mod a Mod_thrown Mod_width Mod_height Mod_many u.1 Mod_bit Mod_single Mod_runs Mod_longest, e_ar a n cI 16 mr, e_ar a n cI 17 u.2]) (u := (u8.1, u8.2)) E hr hlk hw h d_Mod_sum_65
    · have h := h.2 c1
      refine lv_iload_n hx hb d_Mod_sum_14 rfl (lv_at hl 1 rfl) ?_
      refine lv_aload_n hx hb d_Mod_sum_15 rfl (lv_at hl 0 rfl) ?_
      refine kget (v := .ref (a 16)) (T := F_Mod) E hw in_Mod rfl 0 4 rfl (by decide) tw433 rfl d_Mod_sum_16 ?_
      refine lv_iload_n hx hb d_Mod_sum_19 rfl (lv_at hl 3 rfl) ?_
      obtain ⟨b10, h⟩ := h
      refine kald E hw 1 rfl b10 d_Mod_sum_20 ?_
      refine lv_iadd hx hb d_Mod_sum_21 ?_
      refine lv_ldc (v := 65521) hx hb hown (hts _ tw560) d_Mod_sum_22 ?_
      refine lv_irem hx hb d_Mod_sum_24 (by decide) ?_
      refine lv_topi (fun z11 ez11 => ?_)
      have h := h z11 ez11
      refine lv_istore_n (lv' := [(1, .int z11), (0, .ref (a 7)), (2, .int y2), (3, .int y3)]) hx hb d_Mod_sum_25 rfl hl (by decide) rfl (fun ls hl => ?_)
      refine lv_iload_n hx hb d_Mod_sum_26 rfl (lv_at hl 2 rfl) ?_
      refine lv_iload_n hx hb d_Mod_sum_27 rfl (lv_at hl 0 rfl) ?_
      refine lv_iadd hx hb d_Mod_sum_28 ?_
      refine lv_ldc (v := 65521) hx hb hown (hts _ tw560) d_Mod_sum_29 ?_
      refine lv_irem hx hb d_Mod_sum_31 (by decide) ?_
      refine lv_topi (fun z12 ez12 => ?_)
      have h := h z12 ez12
      refine lv_istore_n (lv' := [(2, .int z12), (1, .int z11), (0, .ref (a 7)), (3, .int y3)]) hx hb d_Mod_sum_32 rfl hl (by decide) rfl (fun ls hl => ?_)
      obtain ⟨z13, ez13⟩ : ∃ z : Int32, z = y3 + 1 := ⟨_, rfl⟩
      have h := h z13 ez13
      refine lv_iinc (v := z13) (lv' := [(3, .int z13), (2, .int z12), (1, .int z11), (0, .ref (a 7))]) hx hb d_Mod_sum_33 hl (k := 3) rfl (by rw [ez13]; exact congrArg (y3 + ·) (by decide)) (by decide) rfl (fun ls hl => ?_)
      refine lv_goto (tgt := 6) hx hb d_Mod_sum_36 (by decide) ?_
      exact ih Mod_size mf z11 z12 z13 _ _ ls hw (lv_sub hl [3, 2, 1, 0] rfl) h
set_option maxHeartbeats 2000000 in
set_option maxRecDepth 20000 in
theorem c_Mod_sum {l : Launch} {dC : Nat → ClassId} {dI : Nat → Nat → Nat} {cI : ClassId} {tb : Tbs} {a n : Nat → Nat} {Mod_thrown : Int32} {Mod_width : Int32} {Mod_height : Int32} {Mod_many : Int32} {Mod_size : Int32} {Mod_bit : Int32} {Mod_single : Int32} {Mod_runs : Int32} {Mod_longest : Int32} {mr : Nat → Int32} {mf : Nat → Int32} {post : Int32 × (Nat → Int32) → Prop} (h : wp_Mod_sum n Mod_many Mod_size mr mf post) : CtV classes dC dI cI tb l y_Mod_sum prog_9_method_24_code 4 ({ frames := 1, cells := 0, slots := 0, locals := 21 }) [.ref (a 7)] [e_Mod a Mod_thrown Mod_width Mod_height Mod_many Mod_size Mod_bit Mod_single Mod_runs Mod_longest, e_ar a n cI 16 mr, e_ar a n cI 17 mf] (Int32 × (Nat → Int32)) (fun u => [e_Mod a Mod_thrown Mod_width Mod_height Mod_many u.1 Mod_bit Mod_single Mod_runs Mod_longest, e_ar a n cI 16 mr, e_ar a n cI 17 u.2]) post := by
  refine startV (by decide) (Nat.le_of_ble_eq_true rfl) ?_
  intro p e s m below meth c ls E hr hlk hnm hl hw
  have hl : lv_has ls 4 [(0, .ref (a 7))] := hl
  generalize va_A [e_Mod a Mod_thrown Mod_width Mod_height Mod_many Mod_size Mod_bit Mod_single Mod_runs Mod_longest, e_ar a n cI 16 mr, e_ar a n cI 17 mf] s.heap.size = A at hw ⊢
  obtain ⟨hx, hb, hml, hown, hts⟩ := id E
  unfold wp_Mod_sum at h
  refine lv_iconst (v := 1) hx hb d_Mod_sum_0 (by decide) ?_
  refine lv_istore_n (lv' := [(1, .int 1), (0, .ref (a 7))]) hx hb d_Mod_sum_1 rfl hl (by decide) rfl (fun ls hl => ?_)
  refine lv_iconst (v := 0) hx hb d_Mod_sum_2 (by decide) ?_
  refine lv_istore_n (lv' := [(2, .int 0), (1, .int 1), (0, .ref (a 7))]) hx hb d_Mod_sum_3 rfl hl (by decide) rfl (fun ls hl => ?_)
  refine lv_iconst (v := 0) hx hb d_Mod_sum_4 (by decide) ?_
  refine lv_istore_n (lv' := [(3, .int 0), (2, .int 0), (1, .int 1), (0, .ref (a 7))]) hx hb d_Mod_sum_5 rfl hl (by decide) rfl (fun ls hl => ?_)
  obtain ⟨N14, h⟩ := h
  exact s_Mod_sum_6 (a := a) (n := n) (tb := tb) E hr hlk  N14 Mod_size mf 1 0 0 _ _ ls hw (lv_sub hl [3, 2, 1, 0] rfl) h
-- PicturePackerModel.put()I
theorem d_Mod_put_0 : decode prog_9_method_25_code 0 = .ok (.aload_n 0, 1) := by decide +kernel
theorem d_Mod_put_1 : decode prog_9_method_25_code 1 = .ok (.iconst 0, 1) := by decide +kernel
theorem d_Mod_put_2 : decode prog_9_method_25_code 2 = .ok (.putfield 26, 3) := by decide +kernel
theorem d_Mod_put_5 : decode prog_9_method_25_code 5 = .ok (.aload_n 0, 1) := by decide +kernel
theorem d_Mod_put_6 : decode prog_9_method_25_code 6 = .ok (.invokevirtual 98, 3) := by decide +kernel
theorem d_Mod_put_9 : decode prog_9_method_25_code 9 = .ok (.aload_n 0, 1) := by decide +kernel
theorem d_Mod_put_10 : decode prog_9_method_25_code 10 = .ok (.iconst 0, 1) := by decide +kernel
theorem d_Mod_put_11 : decode prog_9_method_25_code 11 = .ok (.putfield 51, 3) := by decide +kernel
theorem d_Mod_put_14 : decode prog_9_method_25_code 14 = .ok (.aload_n 0, 1) := by decide +kernel
theorem d_Mod_put_15 : decode prog_9_method_25_code 15 = .ok (.iconst 0, 1) := by decide +kernel
theorem d_Mod_put_16 : decode prog_9_method_25_code 16 = .ok (.putfield 94, 3) := by decide +kernel
theorem d_Mod_put_19 : decode prog_9_method_25_code 19 = .ok (.aload_n 0, 1) := by decide +kernel
theorem d_Mod_put_20 : decode prog_9_method_25_code 20 = .ok (.iconst 0, 1) := by decide +kernel
theorem d_Mod_put_21 : decode prog_9_method_25_code 21 = .ok (.putfield 88, 3) := by decide +kernel
theorem d_Mod_put_24 : decode prog_9_method_25_code 24 = .ok (.aload_n 0, 1) := by decide +kernel
theorem d_Mod_put_25 : decode prog_9_method_25_code 25 = .ok (.iconst 0, 1) := by decide +kernel
theorem d_Mod_put_26 : decode prog_9_method_25_code 26 = .ok (.putfield 91, 3) := by decide +kernel
theorem d_Mod_put_29 : decode prog_9_method_25_code 29 = .ok (.aload_n 0, 1) := by decide +kernel
theorem d_Mod_put_30 : decode prog_9_method_25_code 30 = .ok (.sipush 137, 3) := by decide +kernel
theorem d_Mod_put_33 : decode prog_9_method_25_code 33 = .ok (.bipush 80, 2) := by decide +kernel
theorem d_Mod_put_35 : decode prog_9_method_25_code 35 = .ok (.bipush 78, 2) := by decide +kernel
theorem d_Mod_put_37 : decode prog_9_method_25_code 37 = .ok (.bipush 71, 2) := by decide +kernel
theorem d_Mod_put_39 : decode prog_9_method_25_code 39 = .ok (.invokevirtual 101, 3) := by decide +kernel
theorem d_Mod_put_42 : decode prog_9_method_25_code 42 = .ok (.aload_n 0, 1) := by decide +kernel
theorem d_Mod_put_43 : decode prog_9_method_25_code 43 = .ok (.bipush 13, 2) := by decide +kernel
theorem d_Mod_put_45 : decode prog_9_method_25_code 45 = .ok (.bipush 10, 2) := by decide +kernel
theorem d_Mod_put_47 : decode prog_9_method_25_code 47 = .ok (.bipush 26, 2) := by decide +kernel
theorem d_Mod_put_49 : decode prog_9_method_25_code 49 = .ok (.bipush 10, 2) := by decide +kernel
theorem d_Mod_put_51 : decode prog_9_method_25_code 51 = .ok (.invokevirtual 101, 3) := by decide +kernel
theorem d_Mod_put_54 : decode prog_9_method_25_code 54 = .ok (.aload_n 0, 1) := by decide +kernel
theorem d_Mod_put_55 : decode prog_9_method_25_code 55 = .ok (.bipush 13, 2) := by decide +kernel
theorem d_Mod_put_57 : decode prog_9_method_25_code 57 = .ok (.invokevirtual 59, 3) := by decide +kernel
theorem d_Mod_put_60 : decode prog_9_method_25_code 60 = .ok (.aload_n 0, 1) := by decide +kernel
theorem d_Mod_put_61 : decode prog_9_method_25_code 61 = .ok (.bipush 73, 2) := by decide +kernel
theorem d_Mod_put_63 : decode prog_9_method_25_code 63 = .ok (.bipush 72, 2) := by decide +kernel
theorem d_Mod_put_65 : decode prog_9_method_25_code 65 = .ok (.bipush 68, 2) := by decide +kernel
theorem d_Mod_put_67 : decode prog_9_method_25_code 67 = .ok (.bipush 82, 2) := by decide +kernel
theorem d_Mod_put_69 : decode prog_9_method_25_code 69 = .ok (.invokevirtual 101, 3) := by decide +kernel
theorem d_Mod_put_72 : decode prog_9_method_25_code 72 = .ok (.aload_n 0, 1) := by decide +kernel
theorem d_Mod_put_73 : decode prog_9_method_25_code 73 = .ok (.aload_n 0, 1) := by decide +kernel
theorem d_Mod_put_74 : decode prog_9_method_25_code 74 = .ok (.getfield 19, 3) := by decide +kernel
theorem d_Mod_put_77 : decode prog_9_method_25_code 77 = .ok (.invokevirtual 59, 3) := by decide +kernel
theorem d_Mod_put_80 : decode prog_9_method_25_code 80 = .ok (.aload_n 0, 1) := by decide +kernel
theorem d_Mod_put_81 : decode prog_9_method_25_code 81 = .ok (.aload_n 0, 1) := by decide +kernel
theorem d_Mod_put_82 : decode prog_9_method_25_code 82 = .ok (.getfield 23, 3) := by decide +kernel
theorem d_Mod_put_85 : decode prog_9_method_25_code 85 = .ok (.invokevirtual 59, 3) := by decide +kernel
theorem d_Mod_put_88 : decode prog_9_method_25_code 88 = .ok (.aload_n 0, 1) := by decide +kernel
theorem d_Mod_put_89 : decode prog_9_method_25_code 89 = .ok (.bipush 8, 2) := by decide +kernel
theorem d_Mod_put_91 : decode prog_9_method_25_code 91 = .ok (.invokevirtual 54, 3) := by decide +kernel
theorem d_Mod_put_94 : decode prog_9_method_25_code 94 = .ok (.aload_n 0, 1) := by decide +kernel
theorem d_Mod_put_95 : decode prog_9_method_25_code 95 = .ok (.iconst 2, 1) := by decide +kernel
theorem d_Mod_put_96 : decode prog_9_method_25_code 96 = .ok (.invokevirtual 54, 3) := by decide +kernel
theorem d_Mod_put_99 : decode prog_9_method_25_code 99 = .ok (.aload_n 0, 1) := by decide +kernel
theorem d_Mod_put_100 : decode prog_9_method_25_code 100 = .ok (.iconst 0, 1) := by decide +kernel
theorem d_Mod_put_101 : decode prog_9_method_25_code 101 = .ok (.invokevirtual 54, 3) := by decide +kernel
theorem d_Mod_put_104 : decode prog_9_method_25_code 104 = .ok (.aload_n 0, 1) := by decide +kernel
theorem d_Mod_put_105 : decode prog_9_method_25_code 105 = .ok (.iconst 0, 1) := by decide +kernel
theorem d_Mod_put_106 : decode prog_9_method_25_code 106 = .ok (.invokevirtual 54, 3) := by decide +kernel
theorem d_Mod_put_109 : decode prog_9_method_25_code 109 = .ok (.aload_n 0, 1) := by decide +kernel
theorem d_Mod_put_110 : decode prog_9_method_25_code 110 = .ok (.iconst 0, 1) := by decide +kernel
theorem d_Mod_put_111 : decode prog_9_method_25_code 111 = .ok (.invokevirtual 54, 3) := by decide +kernel
theorem d_Mod_put_114 : decode prog_9_method_25_code 114 = .ok (.aload_n 0, 1) := by decide +kernel
theorem d_Mod_put_115 : decode prog_9_method_25_code 115 = .ok (.bipush 12, 2) := by decide +kernel
theorem d_Mod_put_117 : decode prog_9_method_25_code 117 = .ok (.invokevirtual 105, 3) := by decide +kernel
theorem d_Mod_put_120 : decode prog_9_method_25_code 120 = .ok (.aload_n 0, 1) := by decide +kernel
theorem d_Mod_put_121 : decode prog_9_method_25_code 121 = .ok (.getfield 51, 3) := by decide +kernel
theorem d_Mod_put_124 : decode prog_9_method_25_code 124 = .ok (.istore_n 1, 1) := by decide +kernel
theorem d_Mod_put_125 : decode prog_9_method_25_code 125 = .ok (.aload_n 0, 1) := by decide +kernel
theorem d_Mod_put_126 : decode prog_9_method_25_code 126 = .ok (.iconst 0, 1) := by decide +kernel
theorem d_Mod_put_127 : decode prog_9_method_25_code 127 = .ok (.invokevirtual 59, 3) := by decide +kernel
theorem d_Mod_put_130 : decode prog_9_method_25_code 130 = .ok (.aload_n 0, 1) := by decide +kernel
theorem d_Mod_put_131 : decode prog_9_method_25_code 131 = .ok (.bipush 73, 2) := by decide +kernel
theorem d_Mod_put_133 : decode prog_9_method_25_code 133 = .ok (.bipush 68, 2) := by decide +kernel
theorem d_Mod_put_135 : decode prog_9_method_25_code 135 = .ok (.bipush 65, 2) := by decide +kernel
theorem d_Mod_put_137 : decode prog_9_method_25_code 137 = .ok (.bipush 84, 2) := by decide +kernel
theorem d_Mod_put_139 : decode prog_9_method_25_code 139 = .ok (.invokevirtual 101, 3) := by decide +kernel
theorem d_Mod_put_142 : decode prog_9_method_25_code 142 = .ok (.aload_n 0, 1) := by decide +kernel
theorem d_Mod_put_143 : decode prog_9_method_25_code 143 = .ok (.bipush 120, 2) := by decide +kernel
theorem d_Mod_put_145 : decode prog_9_method_25_code 145 = .ok (.invokevirtual 54, 3) := by decide +kernel
theorem d_Mod_put_148 : decode prog_9_method_25_code 148 = .ok (.aload_n 0, 1) := by decide +kernel
theorem d_Mod_put_149 : decode prog_9_method_25_code 149 = .ok (.iconst 1, 1) := by decide +kernel
theorem d_Mod_put_150 : decode prog_9_method_25_code 150 = .ok (.invokevirtual 54, 3) := by decide +kernel
theorem d_Mod_put_153 : decode prog_9_method_25_code 153 = .ok (.aload_n 0, 1) := by decide +kernel
theorem d_Mod_put_154 : decode prog_9_method_25_code 154 = .ok (.iconst 0, 1) := by decide +kernel
theorem d_Mod_put_155 : decode prog_9_method_25_code 155 = .ok (.putfield 62, 3) := by decide +kernel
theorem d_Mod_put_158 : decode prog_9_method_25_code 158 = .ok (.aload_n 0, 1) := by decide +kernel
theorem d_Mod_put_159 : decode prog_9_method_25_code 159 = .ok (.invokevirtual 108, 3) := by decide +kernel
theorem d_Mod_put_162 : decode prog_9_method_25_code 162 = .ok (.aload_n 0, 1) := by decide +kernel
theorem d_Mod_put_163 : decode prog_9_method_25_code 163 = .ok (.invokevirtual 111, 3) := by decide +kernel
theorem d_Mod_put_166 : decode prog_9_method_25_code 166 = .ok (.aload_n 0, 1) := by decide +kernel
theorem d_Mod_put_167 : decode prog_9_method_25_code 167 = .ok (.getfield 51, 3) := by decide +kernel
theorem d_Mod_put_170 : decode prog_9_method_25_code 170 = .ok (.iload_n 1, 1) := by decide +kernel
theorem d_Mod_put_171 : decode prog_9_method_25_code 171 = .ok (.isub, 1) := by decide +kernel
theorem d_Mod_put_172 : decode prog_9_method_25_code 172 = .ok (.bipush 8, 2) := by decide +kernel
theorem d_Mod_put_174 : decode prog_9_method_25_code 174 = .ok (.isub, 1) := by decide +kernel
theorem d_Mod_put_175 : decode prog_9_method_25_code 175 = .ok (.istore_n 2, 1) := by decide +kernel
theorem d_Mod_put_176 : decode prog_9_method_25_code 176 = .ok (.aload_n 0, 1) := by decide +kernel
theorem d_Mod_put_177 : decode prog_9_method_25_code 177 = .ok (.getfield 16, 3) := by decide +kernel
theorem d_Mod_put_180 : decode prog_9_method_25_code 180 = .ok (.iload_n 1, 1) := by decide +kernel
theorem d_Mod_put_181 : decode prog_9_method_25_code 181 = .ok (.iconst 2, 1) := by decide +kernel
theorem d_Mod_put_182 : decode prog_9_method_25_code 182 = .ok (.iadd, 1) := by decide +kernel
theorem d_Mod_put_183 : decode prog_9_method_25_code 183 = .ok (.iload_n 2, 1) := by decide +kernel
theorem d_Mod_put_184 : decode prog_9_method_25_code 184 = .ok (.bipush 8, 2) := by decide +kernel
theorem d_Mod_put_186 : decode prog_9_method_25_code 186 = .ok (.ishr, 1) := by decide +kernel
theorem d_Mod_put_187 : decode prog_9_method_25_code 187 = .ok (.iastore, 1) := by decide +kernel
theorem d_Mod_put_188 : decode prog_9_method_25_code 188 = .ok (.aload_n 0, 1) := by decide +kernel
theorem d_Mod_put_189 : decode prog_9_method_25_code 189 = .ok (.getfield 16, 3) := by decide +kernel
theorem d_Mod_put_192 : decode prog_9_method_25_code 192 = .ok (.iload_n 1, 1) := by decide +kernel
theorem d_Mod_put_193 : decode prog_9_method_25_code 193 = .ok (.iconst 3, 1) := by decide +kernel
theorem d_Mod_put_194 : decode prog_9_method_25_code 194 = .ok (.iadd, 1) := by decide +kernel
theorem d_Mod_put_195 : decode prog_9_method_25_code 195 = .ok (.iload_n 2, 1) := by decide +kernel
theorem d_Mod_put_196 : decode prog_9_method_25_code 196 = .ok (.sipush 255, 3) := by decide +kernel
theorem d_Mod_put_199 : decode prog_9_method_25_code 199 = .ok (.iand, 1) := by decide +kernel
theorem d_Mod_put_200 : decode prog_9_method_25_code 200 = .ok (.iastore, 1) := by decide +kernel
theorem d_Mod_put_201 : decode prog_9_method_25_code 201 = .ok (.aload_n 0, 1) := by decide +kernel
theorem d_Mod_put_202 : decode prog_9_method_25_code 202 = .ok (.iload_n 1, 1) := by decide +kernel
theorem d_Mod_put_203 : decode prog_9_method_25_code 203 = .ok (.iconst 4, 1) := by decide +kernel
theorem d_Mod_put_204 : decode prog_9_method_25_code 204 = .ok (.iadd, 1) := by decide +kernel
theorem d_Mod_put_205 : decode prog_9_method_25_code 205 = .ok (.invokevirtual 105, 3) := by decide +kernel
theorem d_Mod_put_208 : decode prog_9_method_25_code 208 = .ok (.aload_n 0, 1) := by decide +kernel
theorem d_Mod_put_209 : decode prog_9_method_25_code 209 = .ok (.iconst 0, 1) := by decide +kernel
theorem d_Mod_put_210 : decode prog_9_method_25_code 210 = .ok (.invokevirtual 59, 3) := by decide +kernel
theorem d_Mod_put_213 : decode prog_9_method_25_code 213 = .ok (.aload_n 0, 1) := by decide +kernel
theorem d_Mod_put_214 : decode prog_9_method_25_code 214 = .ok (.bipush 73, 2) := by decide +kernel
theorem d_Mod_put_216 : decode prog_9_method_25_code 216 = .ok (.bipush 69, 2) := by decide +kernel
theorem d_Mod_put_218 : decode prog_9_method_25_code 218 = .ok (.bipush 78, 2) := by decide +kernel
theorem d_Mod_put_220 : decode prog_9_method_25_code 220 = .ok (.bipush 68, 2) := by decide +kernel
theorem d_Mod_put_222 : decode prog_9_method_25_code 222 = .ok (.invokevirtual 101, 3) := by decide +kernel
theorem d_Mod_put_225 : decode prog_9_method_25_code 225 = .ok (.aload_n 0, 1) := by decide +kernel
theorem d_Mod_put_226 : decode prog_9_method_25_code 226 = .ok (.aload_n 0, 1) := by decide +kernel
theorem d_Mod_put_227 : decode prog_9_method_25_code 227 = .ok (.getfield 51, 3) := by decide +kernel
theorem d_Mod_put_230 : decode prog_9_method_25_code 230 = .ok (.iconst 4, 1) := by decide +kernel
theorem d_Mod_put_231 : decode prog_9_method_25_code 231 = .ok (.isub, 1) := by decide +kernel
theorem d_Mod_put_232 : decode prog_9_method_25_code 232 = .ok (.invokevirtual 105, 3) := by decide +kernel
theorem d_Mod_put_235 : decode prog_9_method_25_code 235 = .ok (.aload_n 0, 1) := by decide +kernel
theorem d_Mod_put_236 : decode prog_9_method_25_code 236 = .ok (.getfield 51, 3) := by decide +kernel
theorem d_Mod_put_239 : decode prog_9_method_25_code 239 = .ok (.ireturn, 1) := by decide +kernel
abbrev y_Mod_put : MethodName := ⟨"PicturePackerModel", "put", "()I"⟩
def wp_Mod_put (n : Nat → Nat) (Mod_thrown : Int32) (Mod_width : Int32) (Mod_height : Int32) (Mod_many : Int32) (Mod_size : Int32) (Mod_bit : Int32) (Mod_single : Int32) (Mod_runs : Int32) (Mod_longest : Int32) (mc : Nat → Int32) (mr : Nat → Int32) (mf : Nat → Int32) (post : Int32 → Int32 × Int32 × Int32 × Int32 × Int32 × Int32 × Int32 × (Nat → Int32) × (Nat → Int32) → Prop) : Prop := wp_Mod_makeRows n Mod_width Mod_height Mod_many mc mr (fun u1 => wp_Mod_name n 0 mf 137 80 78 71 (fun u3 => wp_Mod_name n u3.1 u3.2 13 10 26 10 (fun u5 => wp_Mod_four n u5.1 u5.2 13 (fun u7 => wp_Mod_name n u7.1 u7.2 73 72 68 82 (fun u9 => wp_Mod_four n u9.1 u9.2 Mod_width (fun u11 => wp_Mod_four n u11.1 u11.2 Mod_height (fun u13 => wp_Mod_one n u13.1 u13.2 8 (fun u15 => wp_Mod_one n u15.1 u15.2 2 (fun u17 => wp_Mod_one n u17.1 u17.2 0 (fun u19 => wp_Mod_one n u19.1 u19.2 0 (fun u21 => wp_Mod_one n u21.1 u21.2 0 (fun u23 => wp_Mod_check n u23.1 u23.2 12 (fun u25 => wp_Mod_four n u25.1 u25.2 0 (fun u27 => wp_Mod_name n u27.1 u27.2 73 68 65 84 (fun u29 => wp_Mod_one n u29.1 u29.2 120 (fun u31 => wp_Mod_one n u31.1 u31.2 1 (fun u33 => wp_Mod_pack n u1.1 u33.1 0 0 0 0 u1.2 u33.2 (fun u35 => wp_Mod_sum n u1.1 u35.1 u1.2 u35.2.2.2.2.2 (fun u37 => ∀ z39 : Int32, z39 = ((u37.1 - u25.1) - 8) → (∀ z40 : Int32, z40 = ((z39 : Int32) >>> (8 &&& 31)) → (vp_in (u25.1 + 2) (n 17) ∧ (∀ f42 : Nat → Int32, f42 = upd u37.2 (u25.1 + 2 : Int32).toNatClampNeg z40 → (∀ z43 : Int32, z43 = (z39 &&& 255) → (vp_in (u25.1 + 3) (n 17) ∧ (∀ f45 : Nat → Int32, f45 = upd f42 (u25.1 + 3 : Int32).toNatClampNeg z43 → (wp_Mod_check n u37.1 f45 (u25.1 + 4) (fun u46 => wp_Mod_four n u46.1 u46.2 0 (fun u48 => wp_Mod_name n u48.1 u48.2 73 69 78 68 (fun u50 => wp_Mod_check n u50.1 u50.2 (u50.1 - 4) (fun u52 => post u52.1 (0, u1.1, u52.1, u35.2.1, u35.2.2.1, u35.2.2.2.1, u35.2.2.2.2.1, u1.2, u52.2)))))))))))))))))))))))))))))))
set_option maxHeartbeats 2000000 in
set_option maxRecDepth 20000 in
theorem c_Mod_put {l : Launch} {dC : Nat → ClassId} {dI : Nat → Nat → Nat} {cI : ClassId} {tb : Tbs} {a n : Nat → Nat} {Mod_thrown : Int32} {Mod_width : Int32} {Mod_height : Int32} {Mod_many : Int32} {Mod_size : Int32} {Mod_bit : Int32} {Mod_single : Int32} {Mod_runs : Int32} {Mod_longest : Int32} {mc : Nat → Int32} {mr : Nat → Int32} {mf : Nat → Int32} {post : Int32 → Int32 × Int32 × Int32 × Int32 × Int32 × Int32 × Int32 × (Nat → Int32) × (Nat → Int32) → Prop} (h : wp_Mod_put n Mod_thrown Mod_width Mod_height Mod_many Mod_size Mod_bit Mod_single Mod_runs Mod_longest mc mr mf post) : CtI classes dC dI cI tb l y_Mod_put prog_9_method_25_code 3 .int ({ frames := 6, cells := 0, slots := 0, locals := 136 }) [.ref (a 7)] [e_Mod a Mod_thrown Mod_width Mod_height Mod_many Mod_size Mod_bit Mod_single Mod_runs Mod_longest, e_ar a n cI 15 mc, e_ar a n cI 16 mr, e_ar a n cI 17 mf] (Int32 × Int32 × Int32 × Int32 × Int32 × Int32 × Int32 × (Nat → Int32) × (Nat → Int32)) (fun u => [e_Mod a u.1 Mod_width Mod_height u.2.1 u.2.2.1 u.2.2.2.1 u.2.2.2.2.1 u.2.2.2.2.2.1 u.2.2.2.2.2.2.1, e_ar a n cI 15 mc, e_ar a n cI 16 u.2.2.2.2.2.2.2.1, e_ar a n cI 17 u.2.2.2.2.2.2.2.2]) post := by
  refine startI (by decide) (Nat.le_of_ble_eq_true rfl) ?_
  intro p e s m below meth c ls E hr hlk hnm hl hw
  have hl : lv_has ls 3 [(0, .ref (a 7))] := hl
  generalize va_A [e_Mod a Mod_thrown Mod_width Mod_height Mod_many Mod_size Mod_bit Mod_single Mod_runs Mod_longest, e_ar a n cI 15 mc, e_ar a n cI 16 mr, e_ar a n cI 17 mf] s.heap.size = A at hw ⊢
  obtain ⟨hx, hb, hml, hown, hts⟩ := id E
  unfold wp_Mod_put at h
  refine lv_aload_n hx hb d_Mod_put_0 rfl (lv_at hl 0 rfl) ?_
  refine lv_iconst (v := 0) hx hb d_Mod_put_1 (by decide) ?_
  refine kput (v := .int 0) (ty := .int) (T := F_Mod) (ws' := [e_Mod a 0 Mod_width Mod_height Mod_many Mod_size Mod_bit Mod_single Mod_runs Mod_longest, e_ar a n cI 15 mc, e_ar a n cI 16 mr, e_ar a n cI 17 mf]) E hw in_Mod t_Mod t_Mod_ok n_Mod rfl 0 0 rfl (by decide) tw429 rfl rfl rfl rfl (Nat.le_of_ble_eq_true rfl) rfl d_Mod_put_2 (fun H locs hw => ?_)
  refine lv_aload_n hx hb d_Mod_put_5 rfl (lv_at hl 0 rfl) ?_
  refine kVv (y := y_Mod_makeRows) (ws' := fun u1 => [e_Mod a 0 Mod_width Mod_height u1.1 Mod_size Mod_bit Mod_single Mod_runs Mod_longest, e_ar a n cI 15 mc, e_ar a n cI 16 u1.2, e_ar a n cI 17 mf]) (wr := [e_ar a n cI 17 mf]) (As := []) (rest := []) E hw (c_Mod_makeRows (l := l) (dC := dC) (dI := dI) (cI := cI) (tb := tb) (a := a) (n := n) (Mod_thrown := 0) (Mod_width := Mod_width) (Mod_height := Mod_height) (Mod_many := Mod_many) (Mod_size := Mod_size) (Mod_bit := Mod_bit) (Mod_single := Mod_single) (Mod_runs := Mod_runs) (Mod_longest := Mod_longest) (mc := mc) (mr := mr)  h) tw487 tw489 tw15 tw42 tw490 0 (by decide) ⟨Nat.le_of_ble_eq_true rfl, Nat.le_of_ble_eq_true rfl⟩ ⟨Nat.le_of_ble_eq_true rfl, Nat.le_of_ble_eq_true rfl⟩ ⟨rfl, rfl⟩ rfl rfl 0 rfl [0, 1, 2] [3] [1, 2, 3, 0] rfl rfl rfl rfl (by decide) rfl (fun _ => rfl) hl.1 rfl rfl (Nat.le_of_ble_eq_true rfl) d_Mod_put_6 (fun u1 H locs h hw => ?_)
  refine lv_aload_n hx hb d_Mod_put_9 rfl (lv_at hl 0 rfl) ?_
  refine lv_iconst (v := 0) hx hb d_Mod_put_10 (by decide) ?_
  refine kput (v := .int 0) (ty := .int) (T := F_Mod) (ws' := [e_Mod a 0 Mod_width Mod_height u1.1 0 Mod_bit Mod_single Mod_runs Mod_longest, e_ar a n cI 15 mc, e_ar a n cI 16 u1.2, e_ar a n cI 17 mf]) E hw in_Mod t_Mod t_Mod_ok n_Mod rfl 0 7 rfl (by decide) tw436 rfl rfl rfl rfl (Nat.le_of_ble_eq_true rfl) rfl d_Mod_put_11 (fun H locs hw => ?_)
  refine lv_aload_n hx hb d_Mod_put_14 rfl (lv_at hl 0 rfl) ?_
  refine lv_iconst (v := 0) hx hb d_Mod_put_15 (by decide) ?_
  refine kput (v := .int 0) (ty := .int) (T := F_Mod) (ws' := [e_Mod a 0 Mod_width Mod_height u1.1 0 Mod_bit 0 Mod_runs Mod_longest, e_ar a n cI 15 mc, e_ar a n cI 16 u1.2, e_ar a n cI 17 mf]) E hw in_Mod t_Mod t_Mod_ok n_Mod rfl 0 9 rfl (by decide) tw438 rfl rfl rfl rfl (Nat.le_of_ble_eq_true rfl) rfl d_Mod_put_16 (fun H locs hw => ?_)
  refine lv_aload_n hx hb d_Mod_put_19 rfl (lv_at hl 0 rfl) ?_
  refine lv_iconst (v := 0) hx hb d_Mod_put_20 (by decide) ?_
  refine kput (v := .int 0) (ty := .int) (T := F_Mod) (ws' := [e_Mod a 0 Mod_width Mod_height u1.1 0 Mod_bit 0 0 Mod_longest, e_ar a n cI 15 mc, e_ar a n cI 16 u1.2, e_ar a n cI 17 mf]) E hw in_Mod t_Mod t_Mod_ok n_Mod rfl 0 10 rfl (by decide) tw439 rfl rfl rfl rfl (Nat.le_of_ble_eq_true rfl) rfl d_Mod_put_21 (fun H locs hw => ?_)
  refine lv_aload_n hx hb d_Mod_put_24 rfl (lv_at hl 0 rfl) ?_
  refine lv_iconst (v := 0) hx hb d_Mod_put_25 (by decide) ?_
  refine kput (v := .int 0) (ty := .int) (T := F_Mod) (ws' := [e_Mod a 0 Mod_width Mod_height u1.1 0 Mod_bit 0 0 0, e_ar a n cI 15 mc, e_ar a n cI 16 u1.2, e_ar a n cI 17 mf]) E hw in_Mod t_Mod t_Mod_ok n_Mod rfl 0 11 rfl (by decide) tw440 rfl rfl rfl rfl (Nat.le_of_ble_eq_true rfl) rfl d_Mod_put_26 (fun H locs hw => ?_)
  refine lv_aload_n hx hb d_Mod_put_29 rfl (lv_at hl 0 rfl) ?_
  refine lv_sipush (v := 137) hx hb d_Mod_put_30 (by decide) ?_
  refine lv_bipush (v := 80) hx hb d_Mod_put_33 (by decide) ?_
  refine lv_bipush (v := 78) hx hb d_Mod_put_35 (by decide) ?_
  refine lv_bipush (v := 71) hx hb d_Mod_put_37 (by decide) ?_
  refine kVv (y := y_Mod_name) (ws' := fun u3 => [e_Mod a 0 Mod_width Mod_height u1.1 u3.1 Mod_bit 0 0 0, e_ar a n cI 15 mc, e_ar a n cI 16 u1.2, e_ar a n cI 17 u3.2]) (wr := [e_ar a n cI 15 mc, e_ar a n cI 16 u1.2]) (As := [.int 137, .int 80, .int 78, .int 71]) (rest := []) E hw (c_Mod_name (l := l) (dC := dC) (dI := dI) (cI := cI) (tb := tb) (a := a) (n := n) (Mod_thrown := 0) (Mod_width := Mod_width) (Mod_height := Mod_height) (Mod_many := u1.1) (Mod_size := 0) (Mod_bit := Mod_bit) (Mod_single := 0) (Mod_runs := 0) (Mod_longest := 0) (mf := mf) (x1 := 137) (x2 := 80) (x3 := 78) (x4 := 71) h) tw506 tw508 tw19 tw42 tw509 4 (by decide) ⟨Nat.le_of_ble_eq_true rfl, Nat.le_of_ble_eq_true rfl⟩ ⟨Nat.le_of_ble_eq_true rfl, Nat.le_of_ble_eq_true rfl⟩ ⟨rfl, rfl⟩ rfl rfl 0 rfl [0, 3] [1, 2] [2, 0, 1, 3] rfl rfl rfl rfl (by decide) rfl (fun _ => rfl) hl.1 rfl rfl (Nat.le_of_ble_eq_true rfl) d_Mod_put_39 (fun u3 H locs h hw => ?_)
  refine lv_aload_n hx hb d_Mod_put_42 rfl (lv_at hl 0 rfl) ?_
  refine lv_bipush (v := 13) hx hb d_Mod_put_43 (by decide) ?_
  refine lv_bipush (v := 10) hx hb d_Mod_put_45 (by decide) ?_
  refine lv_bipush (v := 26) hx hb d_Mod_put_47 (by decide) ?_
  refine lv_bipush (v := 10) hx hb d_Mod_put_49 (by decide) ?_
  refine kVv (y := y_Mod_name) (ws' := fun u5 => [e_Mod a 0 Mod_width Mod_height u1.1 u5.1 Mod_bit 0 0 0, e_ar a n cI 15 mc, e_ar a n cI 16 u1.2, e_ar a n cI 17 u5.2]) (wr := [e_ar a n cI 15 mc, e_ar a n cI 16 u1.2]) (As := [.int 13, .int 10, .int 26, .int 10]) (rest := []) E hw (c_Mod_name (l := l) (dC := dC) (dI := dI) (cI := cI) (tb := tb) (a := a) (n := n) (Mod_thrown := 0) (Mod_width := Mod_width) (Mod_height := Mod_height) (Mod_many := u1.1) (Mod_size := u3.1) (Mod_bit := Mod_bit) (Mod_single := 0) (Mod_runs := 0) (Mod_longest := 0) (mf := u3.2) (x1 := 13) (x2 := 10) (x3 := 26) (x4 := 10) h) tw506 tw508 tw19 tw42 tw509 4 (by decide) ⟨Nat.le_of_ble_eq_true rfl, Nat.le_of_ble_eq_true rfl⟩ ⟨Nat.le_of_ble_eq_true rfl, Nat.le_of_ble_eq_true rfl⟩ ⟨rfl, rfl⟩ rfl rfl 0 rfl [0, 3] [1, 2] [2, 0, 1, 3] rfl rfl rfl rfl (by decide) rfl (fun _ => rfl) hl.1 rfl rfl (Nat.le_of_ble_eq_true rfl) d_Mod_put_51 (fun u5 H locs h hw => ?_)
  refine lv_aload_n hx hb d_Mod_put_54 rfl (lv_at hl 0 rfl) ?_
  refine lv_bipush (v := 13) hx hb d_Mod_put_55 (by decide) ?_
  refine kVv (y := y_Mod_four) (ws' := fun u7 => [e_Mod a 0 Mod_width Mod_height u1.1 u7.1 Mod_bit 0 0 0, e_ar a n cI 15 mc, e_ar a n cI 16 u1.2, e_ar a n cI 17 u7.2]) (wr := [e_ar a n cI 15 mc, e_ar a n cI 16 u1.2]) (As := [.int 13]) (rest := []) E hw (c_Mod_four (l := l) (dC := dC) (dI := dI) (cI := cI) (tb := tb) (a := a) (n := n) (Mod_thrown := 0) (Mod_width := Mod_width) (Mod_height := Mod_height) (Mod_many := u1.1) (Mod_size := u5.1) (Mod_bit := Mod_bit) (Mod_single := 0) (Mod_runs := 0) (Mod_longest := 0) (mf := u5.2) (x1 := 13) h) tw514 tw516 tw21 tw42 tw517 1 (by decide) ⟨Nat.le_of_ble_eq_true rfl, Nat.le_of_ble_eq_true rfl⟩ ⟨Nat.le_of_ble_eq_true rfl, Nat.le_of_ble_eq_true rfl⟩ ⟨rfl, rfl⟩ rfl rfl 0 rfl [0, 3] [1, 2] [2, 0, 1, 3] rfl rfl rfl rfl (by decide) rfl (fun _ => rfl) hl.1 rfl rfl (Nat.le_of_ble_eq_true rfl) d_Mod_put_57 (fun u7 H locs h hw => ?_)
  refine lv_aload_n hx hb d_Mod_put_60 rfl (lv_at hl 0 rfl) ?_
  refine lv_bipush (v := 73) hx hb d_Mod_put_61 (by decide) ?_
  refine lv_bipush (v := 72) hx hb d_Mod_put_63 (by decide) ?_
  refine lv_bipush (v := 68) hx hb d_Mod_put_65 (by decide) ?_
  refine lv_bipush (v := 82) hx hb d_Mod_put_67 (by decide) ?_
  refine kVv (y := y_Mod_name) (ws' := fun u9 => [e_Mod a 0 Mod_width Mod_height u1.1 u9.1 Mod_bit 0 0 0, e_ar a n cI 15 mc, e_ar a n cI 16 u1.2, e_ar a n cI 17 u9.2]) (wr := [e_ar a n cI 15 mc, e_ar a n cI 16 u1.2]) (As := [.int 73, .int 72, .int 68, .int 82]) (rest := []) E hw (c_Mod_name (l := l) (dC := dC) (dI := dI) (cI := cI) (tb := tb) (a := a) (n := n) (Mod_thrown := 0) (Mod_width := Mod_width) (Mod_height := Mod_height) (Mod_many := u1.1) (Mod_size := u7.1) (Mod_bit := Mod_bit) (Mod_single := 0) (Mod_runs := 0) (Mod_longest := 0) (mf := u7.2) (x1 := 73) (x2 := 72) (x3 := 68) (x4 := 82) h) tw506 tw508 tw19 tw42 tw509 4 (by decide) ⟨Nat.le_of_ble_eq_true rfl, Nat.le_of_ble_eq_true rfl⟩ ⟨Nat.le_of_ble_eq_true rfl, Nat.le_of_ble_eq_true rfl⟩ ⟨rfl, rfl⟩ rfl rfl 0 rfl [0, 3] [1, 2] [2, 0, 1, 3] rfl rfl rfl rfl (by decide) rfl (fun _ => rfl) hl.1 rfl rfl (Nat.le_of_ble_eq_true rfl) d_Mod_put_69 (fun u9 H locs h hw => ?_)
  refine lv_aload_n hx hb d_Mod_put_72 rfl (lv_at hl 0 rfl) ?_
  refine lv_aload_n hx hb d_Mod_put_73 rfl (lv_at hl 0 rfl) ?_
  refine kget (v := .int Mod_width) (T := F_Mod) E hw in_Mod rfl 0 1 rfl (by decide) tw430 rfl d_Mod_put_74 ?_
  refine kVv (y := y_Mod_four) (ws' := fun u11 => [e_Mod a 0 Mod_width Mod_height u1.1 u11.1 Mod_bit 0 0 0, e_ar a n cI 15 mc, e_ar a n cI 16 u1.2, e_ar a n cI 17 u11.2]) (wr := [e_ar a n cI 15 mc, e_ar a n cI 16 u1.2]) (As := [.int Mod_width]) (rest := []) E hw (c_Mod_four (l := l) (dC := dC) (dI := dI) (cI := cI) (tb := tb) (a := a) (n := n) (Mod_thrown := 0) (Mod_width := Mod_width) (Mod_height := Mod_height) (Mod_many := u1.1) (Mod_size := u9.1) (Mod_bit := Mod_bit) (Mod_single := 0) (Mod_runs := 0) (Mod_longest := 0) (mf := u9.2) (x1 := Mod_width) h) tw514 tw516 tw21 tw42 tw517 1 (by decide) ⟨Nat.le_of_ble_eq_true rfl, Nat.le_of_ble_eq_true rfl⟩ ⟨Nat.le_of_ble_eq_true rfl, Nat.le_of_ble_eq_true rfl⟩ ⟨rfl, rfl⟩ rfl rfl 0 rfl [0, 3] [1, 2] [2, 0, 1, 3] rfl rfl rfl rfl (by decide) rfl (fun _ => rfl) hl.1 rfl rfl (Nat.le_of_ble_eq_true rfl) d_Mod_put_77 (fun u11 H locs h hw => ?_)
  refine lv_aload_n hx hb d_Mod_put_80 rfl (lv_at hl 0 rfl) ?_
  refine lv_aload_n hx hb d_Mod_put_81 rfl (lv_at hl 0 rfl) ?_
  refine kget (v := .int Mod_height) (T := F_Mod) E hw in_Mod rfl 0 2 rfl (by decide) tw431 rfl d_Mod_put_82 ?_
  refine kVv (y := y_Mod_four) (ws' := fun u13 => [e_Mod a 0 Mod_width Mod_height u1.1 u13.1 Mod_bit 0 0 0, e_ar a n cI 15 mc, e_ar a n cI 16 u1.2, e_ar a n cI 17 u13.2]) (wr := [e_ar a n cI 15 mc, e_ar a n cI 16 u1.2]) (As := [.int Mod_height]) (rest := []) E hw (c_Mod_four (l := l) (dC := dC) (dI := dI) (cI := cI) (tb := tb) (a := a) (n := n) (Mod_thrown := 0) (Mod_width := Mod_width) (Mod_height := Mod_height) (Mod_many := u1.1) (Mod_size := u11.1) (Mod_bit := Mod_bit) (Mod_single := 0) (Mod_runs := 0) (Mod_longest := 0) (mf := u11.2) (x1 := Mod_height) h) tw514 tw516 tw21 tw42 tw517 1 (by decide) ⟨Nat.le_of_ble_eq_true rfl, Nat.le_of_ble_eq_true rfl⟩ ⟨Nat.le_of_ble_eq_true rfl, Nat.le_of_ble_eq_true rfl⟩ ⟨rfl, rfl⟩ rfl rfl 0 rfl [0, 3] [1, 2] [2, 0, 1, 3] rfl rfl rfl rfl (by decide) rfl (fun _ => rfl) hl.1 rfl rfl (Nat.le_of_ble_eq_true rfl) d_Mod_put_85 (fun u13 H locs h hw => ?_)
  refine lv_aload_n hx hb d_Mod_put_88 rfl (lv_at hl 0 rfl) ?_
  refine lv_bipush (v := 8) hx hb d_Mod_put_89 (by decide) ?_
  refine kVv (y := y_Mod_one) (ws' := fun u15 => [e_Mod a 0 Mod_width Mod_height u1.1 u15.1 Mod_bit 0 0 0, e_ar a n cI 15 mc, e_ar a n cI 16 u1.2, e_ar a n cI 17 u15.2]) (wr := [e_ar a n cI 15 mc, e_ar a n cI 16 u1.2]) (As := [.int 8]) (rest := []) E hw (c_Mod_one (l := l) (dC := dC) (dI := dI) (cI := cI) (tb := tb) (a := a) (n := n) (Mod_thrown := 0) (Mod_width := Mod_width) (Mod_height := Mod_height) (Mod_many := u1.1) (Mod_size := u13.1) (Mod_bit := Mod_bit) (Mod_single := 0) (Mod_runs := 0) (Mod_longest := 0) (mf := u13.2) (x1 := 8) h) tw510 tw512 tw20 tw42 tw513 1 (by decide) ⟨Nat.le_of_ble_eq_true rfl, Nat.le_of_ble_eq_true rfl⟩ ⟨Nat.le_of_ble_eq_true rfl, Nat.le_of_ble_eq_true rfl⟩ ⟨rfl, rfl⟩ rfl rfl 0 rfl [0, 3] [1, 2] [2, 0, 1, 3] rfl rfl rfl rfl (by decide) rfl (fun _ => rfl) hl.1 rfl rfl (Nat.le_of_ble_eq_true rfl) d_Mod_put_91 (fun u15 H locs h hw => ?_)
  refine lv_aload_n hx hb d_Mod_put_94 rfl (lv_at hl 0 rfl) ?_
  refine lv_iconst (v := 2) hx hb d_Mod_put_95 (by decide) ?_
  refine kVv (y := y_Mod_one) (ws' := fun u17 => [e_Mod a 0 Mod_width Mod_height u1.1 u17.1 Mod_bit 0 0 0, e_ar a n cI 15 mc, e_ar a n cI 16 u1.2, e_ar a n cI 17 u17.2]) (wr := [e_ar a n cI 15 mc, e_ar a n cI 16 u1.2]) (As := [.int 2]) (rest := []) E hw (c_Mod_one (l := l) (dC := dC) (dI := dI) (cI := cI) (tb := tb) (a := a) (n := n) (Mod_thrown := 0) (Mod_width := Mod_width) (Mod_height := Mod_height) (Mod_many := u1.1) (Mod_size := u15.1) (Mod_bit := Mod_bit) (Mod_single := 0) (Mod_runs := 0) (Mod_longest := 0) (mf := u15.2) (x1 := 2) h) tw510 tw512 tw20 tw42 tw513 1 (by decide) ⟨Nat.le_of_ble_eq_true rfl, Nat.le_of_ble_eq_true rfl⟩ ⟨Nat.le_of_ble_eq_true rfl, Nat.le_of_ble_eq_true rfl⟩ ⟨rfl, rfl⟩ rfl rfl 0 rfl [0, 3] [1, 2] [2, 0, 1, 3] rfl rfl rfl rfl (by decide) rfl (fun _ => rfl) hl.1 rfl rfl (Nat.le_of_ble_eq_true rfl) d_Mod_put_96 (fun u17 H locs h hw => ?_)
  refine lv_aload_n hx hb d_Mod_put_99 rfl (lv_at hl 0 rfl) ?_
  refine lv_iconst (v := 0) hx hb d_Mod_put_100 (by decide) ?_
  refine kVv (y := y_Mod_one) (ws' := fun u19 => [e_Mod a 0 Mod_width Mod_height u1.1 u19.1 Mod_bit 0 0 0, e_ar a n cI 15 mc, e_ar a n cI 16 u1.2, e_ar a n cI 17 u19.2]) (wr := [e_ar a n cI 15 mc, e_ar a n cI 16 u1.2]) (As := [.int 0]) (rest := []) E hw (c_Mod_one (l := l) (dC := dC) (dI := dI) (cI := cI) (tb := tb) (a := a) (n := n) (Mod_thrown := 0) (Mod_width := Mod_width) (Mod_height := Mod_height) (Mod_many := u1.1) (Mod_size := u17.1) (Mod_bit := Mod_bit) (Mod_single := 0) (Mod_runs := 0) (Mod_longest := 0) (mf := u17.2) (x1 := 0) h) tw510 tw512 tw20 tw42 tw513 1 (by decide) ⟨Nat.le_of_ble_eq_true rfl, Nat.le_of_ble_eq_true rfl⟩ ⟨Nat.le_of_ble_eq_true rfl, Nat.le_of_ble_eq_true rfl⟩ ⟨rfl, rfl⟩ rfl rfl 0 rfl [0, 3] [1, 2] [2, 0, 1, 3] rfl rfl rfl rfl (by decide) rfl (fun _ => rfl) hl.1 rfl rfl (Nat.le_of_ble_eq_true rfl) d_Mod_put_101 (fun u19 H locs h hw => ?_)
  refine lv_aload_n hx hb d_Mod_put_104 rfl (lv_at hl 0 rfl) ?_
  refine lv_iconst (v := 0) hx hb d_Mod_put_105 (by decide) ?_
  refine kVv (y := y_Mod_one) (ws' := fun u21 => [e_Mod a 0 Mod_width Mod_height u1.1 u21.1 Mod_bit 0 0 0, e_ar a n cI 15 mc, e_ar a n cI 16 u1.2, e_ar a n cI 17 u21.2]) (wr := [e_ar a n cI 15 mc, e_ar a n cI 16 u1.2]) (As := [.int 0]) (rest := []) E hw (c_Mod_one (l := l) (dC := dC) (dI := dI) (cI := cI) (tb := tb) (a := a) (n := n) (Mod_thrown := 0) (Mod_width := Mod_width) (Mod_height := Mod_height) (Mod_many := u1.1) (Mod_size := u19.1) (Mod_bit := Mod_bit) (Mod_single := 0) (Mod_runs := 0) (Mod_longest := 0) (mf := u19.2) (x1 := 0) h) tw510 tw512 tw20 tw42 tw513 1 (by decide) ⟨Nat.le_of_ble_eq_true rfl, Nat.le_of_ble_eq_true rfl⟩ ⟨Nat.le_of_ble_eq_true rfl, Nat.le_of_ble_eq_true rfl⟩ ⟨rfl, rfl⟩ rfl rfl 0 rfl [0, 3] [1, 2] [2, 0, 1, 3] rfl rfl rfl rfl (by decide) rfl (fun _ => rfl) hl.1 rfl rfl (Nat.le_of_ble_eq_true rfl) d_Mod_put_106 (fun u21 H locs h hw => ?_)
  refine lv_aload_n hx hb d_Mod_put_109 rfl (lv_at hl 0 rfl) ?_
  refine lv_iconst (v := 0) hx hb d_Mod_put_110 (by decide) ?_
  refine kVv (y := y_Mod_one) (ws' := fun u23 => [e_Mod a 0 Mod_width Mod_height u1.1 u23.1 Mod_bit 0 0 0, e_ar a n cI 15 mc, e_ar a n cI 16 u1.2, e_ar a n cI 17 u23.2]) (wr := [e_ar a n cI 15 mc, e_ar a n cI 16 u1.2]) (As := [.int 0]) (rest := []) E hw (c_Mod_one (l := l) (dC := dC) (dI := dI) (cI := cI) (tb := tb) (a := a) (n := n) (Mod_thrown := 0) (Mod_width := Mod_width) (Mod_height := Mod_height) (Mod_many := u1.1) (Mod_size := u21.1) (Mod_bit := Mod_bit) (Mod_single := 0) (Mod_runs := 0) (Mod_longest := 0) (mf := u21.2) (x1 := 0) h) tw510 tw512 tw20 tw42 tw513 1 (by decide) ⟨Nat.le_of_ble_eq_true rfl, Nat.le_of_ble_eq_true rfl⟩ ⟨Nat.le_of_ble_eq_true rfl, Nat.le_of_ble_eq_true rfl⟩ ⟨rfl, rfl⟩ rfl rfl 0 rfl [0, 3] [1, 2] [2, 0, 1, 3] rfl rfl rfl rfl (by decide) rfl (fun _ => rfl) hl.1 rfl rfl (Nat.le_of_ble_eq_true rfl) d_Mod_put_111 (fun u23 H locs h hw => ?_)
  refine lv_aload_n hx hb d_Mod_put_114 rfl (lv_at hl 0 rfl) ?_
  refine lv_bipush (v := 12) hx hb d_Mod_put_115 (by decide) ?_
  refine kVv (y := y_Mod_check) (ws' := fun u25 => [e_Mod a 0 Mod_width Mod_height u1.1 u25.1 Mod_bit 0 0 0, e_ar a n cI 15 mc, e_ar a n cI 16 u1.2, e_ar a n cI 17 u25.2]) (wr := [e_ar a n cI 15 mc, e_ar a n cI 16 u1.2]) (As := [.int 12]) (rest := []) E hw (c_Mod_check (l := l) (dC := dC) (dI := dI) (cI := cI) (tb := tb) (a := a) (n := n) (Mod_thrown := 0) (Mod_width := Mod_width) (Mod_height := Mod_height) (Mod_many := u1.1) (Mod_size := u23.1) (Mod_bit := Mod_bit) (Mod_single := 0) (Mod_runs := 0) (Mod_longest := 0) (mf := u23.2) (x1 := 12) h) tw518 tw520 tw22 tw42 tw521 1 (by decide) ⟨Nat.le_of_ble_eq_true rfl, Nat.le_of_ble_eq_true rfl⟩ ⟨Nat.le_of_ble_eq_true rfl, Nat.le_of_ble_eq_true rfl⟩ ⟨rfl, rfl⟩ rfl rfl 0 rfl [0, 3] [1, 2] [2, 0, 1, 3] rfl rfl rfl rfl (by decide) rfl (fun _ => rfl) hl.1 rfl rfl (Nat.le_of_ble_eq_true rfl) d_Mod_put_117 (fun u25 H locs h hw => ?_)
  refine lv_aload_n hx hb d_Mod_put_120 rfl (lv_at hl 0 rfl) ?_
  refine kget (v := .int u25.1) (T := F_Mod) E hw in_Mod rfl 0 7 rfl (by decide) tw436 rfl d_Mod_put_121 ?_
  refine lv_istore_n (lv' := [(1, .int u25.1), (0, .ref (a 7))]) hx hb d_Mod_put_124 rfl hl (by decide) rfl (fun ls hl => ?_)
  refine lv_aload_n hx hb d_Mod_put_125 rfl (lv_at hl 1 rfl) ?_
  refine lv_iconst (v := 0) hx hb d_Mod_put_126 (by decide) ?_
  refine kVv (y := y_Mod_four) (ws' := fun u27 => [e_Mod a 0 Mod_width Mod_height u1.1 u27.1 Mod_bit 0 0 0, e_ar a n cI 15 mc, e_ar a n cI 16 u1.2, e_ar a n cI 17 u27.2]) (wr := [e_ar a n cI 15 mc, e_ar a n cI 16 u1.2]) (As := [.int 0]) (rest := []) E hw (c_Mod_four (l := l) (dC := dC) (dI := dI) (cI := cI) (tb := tb) (a := a) (n := n) (Mod_thrown := 0) (Mod_width := Mod_width) (Mod_height := Mod_height) (Mod_many := u1.1) (Mod_size := u25.1) (Mod_bit := Mod_bit) (Mod_single := 0) (Mod_runs := 0) (Mod_longest := 0) (mf := u25.2) (x1 := 0) h) tw514 tw516 tw21 tw42 tw517 1 (by decide) ⟨Nat.le_of_ble_eq_true rfl, Nat.le_of_ble_eq_true rfl⟩ ⟨Nat.le_of_ble_eq_true rfl, Nat.le_of_ble_eq_true rfl⟩ ⟨rfl, rfl⟩ rfl rfl 0 rfl [0, 3] [1, 2] [2, 0, 1, 3] rfl rfl rfl rfl (by decide) rfl (fun _ => rfl) hl.1 rfl rfl (Nat.le_of_ble_eq_true rfl) d_Mod_put_127 (fun u27 H locs h hw => ?_)
  refine lv_aload_n hx hb d_Mod_put_130 rfl (lv_at hl 1 rfl) ?_
  refine lv_bipush (v := 73) hx hb d_Mod_put_131 (by decide) ?_
  refine lv_bipush (v := 68) hx hb d_Mod_put_133 (by decide) ?_
  refine lv_bipush (v := 65) hx hb d_Mod_put_135 (by decide) ?_
  refine lv_bipush (v := 84) hx hb d_Mod_put_137 (by decide) ?_
  refine kVv (y := y_Mod_name) (ws' := fun u29 => [e_Mod a 0 Mod_width Mod_height u1.1 u29.1 Mod_bit 0 0 0, e_ar a n cI 15 mc, e_ar a n cI 16 u1.2, e_ar a n cI 17 u29.2]) (wr := [e_ar a n cI 15 mc, e_ar a n cI 16 u1.2]) (As := [.int 73, .int 68, .int 65, .int 84]) (rest := []) E hw (c_Mod_name (l := l) (dC := dC) (dI := dI) (cI := cI) (tb := tb) (a := a) (n := n) (Mod_thrown := 0) (Mod_width := Mod_width) (Mod_height := Mod_height) (Mod_many := u1.1) (Mod_size := u27.1) (Mod_bit := Mod_bit) (Mod_single := 0) (Mod_runs := 0) (Mod_longest := 0) (mf := u27.2) (x1 := 73) (x2 := 68) (x3 := 65) (x4 := 84) h) tw506 tw508 tw19 tw42 tw509 4 (by decide) ⟨Nat.le_of_ble_eq_true rfl, Nat.le_of_ble_eq_true rfl⟩ ⟨Nat.le_of_ble_eq_true rfl, Nat.le_of_ble_eq_true rfl⟩ ⟨rfl, rfl⟩ rfl rfl 0 rfl [0, 3] [1, 2] [2, 0, 1, 3] rfl rfl rfl rfl (by decide) rfl (fun _ => rfl) hl.1 rfl rfl (Nat.le_of_ble_eq_true rfl) d_Mod_put_139 (fun u29 H locs h hw => ?_)
  refine lv_aload_n hx hb d_Mod_put_142 rfl (lv_at hl 1 rfl) ?_
  refine lv_bipush (v := 120) hx hb d_Mod_put_143 (by decide) ?_
  refine kVv (y := y_Mod_one) (ws' := fun u31 => [e_Mod a 0 Mod_width Mod_height u1.1 u31.1 Mod_bit 0 0 0, e_ar a n cI 15 mc, e_ar a n cI 16 u1.2, e_ar a n cI 17 u31.2]) (wr := [e_ar a n cI 15 mc, e_ar a n cI 16 u1.2]) (As := [.int 120]) (rest := []) E hw (c_Mod_one (l := l) (dC := dC) (dI := dI) (cI := cI) (tb := tb) (a := a) (n := n) (Mod_thrown := 0) (Mod_width := Mod_width) (Mod_height := Mod_height) (Mod_many := u1.1) (Mod_size := u29.1) (Mod_bit := Mod_bit) (Mod_single := 0) (Mod_runs := 0) (Mod_longest := 0) (mf := u29.2) (x1 := 120) h) tw510 tw512 tw20 tw42 tw513 1 (by decide) ⟨Nat.le_of_ble_eq_true rfl, Nat.le_of_ble_eq_true rfl⟩ ⟨Nat.le_of_ble_eq_true rfl, Nat.le_of_ble_eq_true rfl⟩ ⟨rfl, rfl⟩ rfl rfl 0 rfl [0, 3] [1, 2] [2, 0, 1, 3] rfl rfl rfl rfl (by decide) rfl (fun _ => rfl) hl.1 rfl rfl (Nat.le_of_ble_eq_true rfl) d_Mod_put_145 (fun u31 H locs h hw => ?_)
  refine lv_aload_n hx hb d_Mod_put_148 rfl (lv_at hl 1 rfl) ?_
  refine lv_iconst (v := 1) hx hb d_Mod_put_149 (by decide) ?_
  refine kVv (y := y_Mod_one) (ws' := fun u33 => [e_Mod a 0 Mod_width Mod_height u1.1 u33.1 Mod_bit 0 0 0, e_ar a n cI 15 mc, e_ar a n cI 16 u1.2, e_ar a n cI 17 u33.2]) (wr := [e_ar a n cI 15 mc, e_ar a n cI 16 u1.2]) (As := [.int 1]) (rest := []) E hw (c_Mod_one (l := l) (dC := dC) (dI := dI) (cI := cI) (tb := tb) (a := a) (n := n) (Mod_thrown := 0) (Mod_width := Mod_width) (Mod_height := Mod_height) (Mod_many := u1.1) (Mod_size := u31.1) (Mod_bit := Mod_bit) (Mod_single := 0) (Mod_runs := 0) (Mod_longest := 0) (mf := u31.2) (x1 := 1) h) tw510 tw512 tw20 tw42 tw513 1 (by decide) ⟨Nat.le_of_ble_eq_true rfl, Nat.le_of_ble_eq_true rfl⟩ ⟨Nat.le_of_ble_eq_true rfl, Nat.le_of_ble_eq_true rfl⟩ ⟨rfl, rfl⟩ rfl rfl 0 rfl [0, 3] [1, 2] [2, 0, 1, 3] rfl rfl rfl rfl (by decide) rfl (fun _ => rfl) hl.1 rfl rfl (Nat.le_of_ble_eq_true rfl) d_Mod_put_150 (fun u33 H locs h hw => ?_)
  refine lv_aload_n hx hb d_Mod_put_153 rfl (lv_at hl 1 rfl) ?_
  refine lv_iconst (v := 0) hx hb d_Mod_put_154 (by decide) ?_
  refine kput (v := .int 0) (ty := .int) (T := F_Mod) (ws' := [e_Mod a 0 Mod_width Mod_height u1.1 u33.1 0 0 0 0, e_ar a n cI 15 mc, e_ar a n cI 16 u1.2, e_ar a n cI 17 u33.2]) E hw in_Mod t_Mod t_Mod_ok n_Mod rfl 0 8 rfl (by decide) tw437 rfl rfl rfl rfl (Nat.le_of_ble_eq_true rfl) rfl d_Mod_put_155 (fun H locs hw => ?_)
  refine lv_aload_n hx hb d_Mod_put_158 rfl (lv_at hl 1 rfl) ?_
  refine kVv (y := y_Mod_pack) (ws' := fun u35 => [e_Mod a 0 Mod_width Mod_height u1.1 u35.1 u35.2.1 u35.2.2.1 u35.2.2.2.1 u35.2.2.2.2.1, e_ar a n cI 15 mc, e_ar a n cI 16 u1.2, e_ar a n cI 17 u35.2.2.2.2.2]) (wr := [e_ar a n cI 15 mc]) (As := []) (rest := []) E hw (c_Mod_pack (l := l) (dC := dC) (dI := dI) (cI := cI) (tb := tb) (a := a) (n := n) (Mod_thrown := 0) (Mod_width := Mod_width) (Mod_height := Mod_height) (Mod_many := u1.1) (Mod_size := u33.1) (Mod_bit := 0) (Mod_single := 0) (Mod_runs := 0) (Mod_longest := 0) (mr := u1.2) (mf := u33.2)  h) tw523 tw525 tw23 tw42 tw526 0 (by decide) ⟨Nat.le_of_ble_eq_true rfl, Nat.le_of_ble_eq_true rfl⟩ ⟨Nat.le_of_ble_eq_true rfl, Nat.le_of_ble_eq_true rfl⟩ ⟨rfl, rfl⟩ rfl rfl 0 rfl [0, 2, 3] [1] [1, 0, 2, 3] rfl rfl rfl rfl (by decide) rfl (fun _ => rfl) hl.1 rfl rfl (Nat.le_of_ble_eq_true rfl) d_Mod_put_159 (fun u35 H locs h hw => ?_)
  refine lv_aload_n hx hb d_Mod_put_162 rfl (lv_at hl 1 rfl) ?_
  refine kVv (y := y_Mod_sum) (ws' := fun u37 => [e_Mod a 0 Mod_width Mod_height u1.1 u37.1 u35.2.1 u35.2.2.1 u35.2.2.2.1 u35.2.2.2.2.1, e_ar a n cI 15 mc, e_ar a n cI 16 u1.2, e_ar a n cI 17 u37.2]) (wr := [e_ar a n cI 15 mc]) (As := []) (rest := []) E hw (c_Mod_sum (l := l) (dC := dC) (dI := dI) (cI := cI) (tb := tb) (a := a) (n := n) (Mod_thrown := 0) (Mod_width := Mod_width) (Mod_height := Mod_height) (Mod_many := u1.1) (Mod_size := u35.1) (Mod_bit := u35.2.1) (Mod_single := u35.2.2.1) (Mod_runs := u35.2.2.2.1) (Mod_longest := u35.2.2.2.2.1) (mr := u1.2) (mf := u35.2.2.2.2.2)  h) tw556 tw558 tw31 tw42 tw559 0 (by decide) ⟨Nat.le_of_ble_eq_true rfl, Nat.le_of_ble_eq_true rfl⟩ ⟨Nat.le_of_ble_eq_true rfl, Nat.le_of_ble_eq_true rfl⟩ ⟨rfl, rfl⟩ rfl rfl 0 rfl [0, 2, 3] [1] [1, 0, 2, 3] rfl rfl rfl rfl (by decide) rfl (fun _ => rfl) hl.1 rfl rfl (Nat.le_of_ble_eq_true rfl) d_Mod_put_163 (fun u37 H locs h hw => ?_)
  refine lv_aload_n hx hb d_Mod_put_166 rfl (lv_at hl 1 rfl) ?_
  refine kget (v := .int u37.1) (T := F_Mod) E hw in_Mod rfl 0 7 rfl (by decide) tw436 rfl d_Mod_put_167 ?_
  refine lv_iload_n hx hb d_Mod_put_170 rfl (lv_at hl 0 rfl) ?_
  refine lv_isub hx hb d_Mod_put_171 ?_
  refine lv_bipush (v := 8) hx hb d_Mod_put_172 (by decide) ?_
  refine lv_isub hx hb d_Mod_put_174 ?_
  refine lv_topi (fun z39 ez39 => ?_)
  have h := h z39 ez39
  refine lv_istore_n (lv' := [(2, .int z39), (1, .int u25.1), (0, .ref (a 7))]) hx hb d_Mod_put_175 rfl hl (by decide) rfl (fun ls hl => ?_)
  refine lv_aload_n hx hb d_Mod_put_176 rfl (lv_at hl 2 rfl) ?_
  refine kget (v := .ref (a 17)) (T := F_Mod) E hw in_Mod rfl 0 6 rfl (by decide) tw435 rfl d_Mod_put_177 ?_
  refine lv_iload_n hx hb d_Mod_put_180 rfl (lv_at hl 1 rfl) ?_
  refine lv_iconst (v := 2) hx hb d_Mod_put_181 (by decide) ?_
  refine lv_iadd hx hb d_Mod_put_182 ?_
  refine lv_iload_n hx hb d_Mod_put_183 rfl (lv_at hl 0 rfl) ?_
  refine lv_bipush (v := 8) hx hb d_Mod_put_184 (by decide) ?_
  refine lv_ishr hx hb d_Mod_put_186 ?_
  refine lv_topi (fun z40 ez40 => ?_)
  have h := h z40 ez40
  obtain ⟨b41, h⟩ := h
  obtain ⟨f42, ef42⟩ : ∃ z : Nat → Int32, z = upd u37.2 (u25.1 + 2 : Int32).toNatClampNeg z40 := ⟨_, rfl⟩
  have h := h f42 ef42
  refine kast (ws' := [e_Mod a 0 Mod_width Mod_height u1.1 u37.1 u35.2.1 u35.2.2.1 u35.2.2.2.1 u35.2.2.2.2.1, e_ar a n cI 15 mc, e_ar a n cI 16 u1.2, e_ar a n cI 17 f42]) E hw 3 rfl b41 (by rw [ef42]; rfl) d_Mod_put_187 (fun H locs hw => ?_)
  refine lv_aload_n hx hb d_Mod_put_188 rfl (lv_at hl 2 rfl) ?_
  refine kget (v := .ref (a 17)) (T := F_Mod) E hw in_Mod rfl 0 6 rfl (by decide) tw435 rfl d_Mod_put_189 ?_
  refine lv_iload_n hx hb d_Mod_put_192 rfl (lv_at hl 1 rfl) ?_
  refine lv_iconst (v := 3) hx hb d_Mod_put_193 (by decide) ?_
  refine lv_iadd hx hb d_Mod_put_194 ?_
  refine lv_iload_n hx hb d_Mod_put_195 rfl (lv_at hl 0 rfl) ?_
  refine lv_sipush (v := 255) hx hb d_Mod_put_196 (by decide) ?_
  refine lv_iand hx hb d_Mod_put_199 ?_
  refine lv_topi (fun z43 ez43 => ?_)
  have h := h z43 ez43
  obtain ⟨b44, h⟩ := h
  obtain ⟨f45, ef45⟩ : ∃ z : Nat → Int32, z = upd f42 (u25.1 + 3 : Int32).toNatClampNeg z43 := ⟨_, rfl⟩
  have h := h f45 ef45
  refine kast (ws' := [e_Mod a 0 Mod_width Mod_height u1.1 u37.1 u35.2.1 u35.2.2.1 u35.2.2.2.1 u35.2.2.2.2.1, e_ar a n cI 15 mc, e_ar a n cI 16 u1.2, e_ar a n cI 17 f45]) E hw 3 rfl b44 (by rw [ef45]; rfl) d_Mod_put_200 (fun H locs hw => ?_)
  refine lv_aload_n hx hb d_Mod_put_201 rfl (lv_at hl 2 rfl) ?_
  refine lv_iload_n hx hb d_Mod_put_202 rfl (lv_at hl 1 rfl) ?_
  refine lv_iconst (v := 4) hx hb d_Mod_put_203 (by decide) ?_
  refine lv_iadd hx hb d_Mod_put_204 ?_
  refine kVv (y := y_Mod_check) (ws' := fun u46 => [e_Mod a 0 Mod_width Mod_height u1.1 u46.1 u35.2.1 u35.2.2.1 u35.2.2.2.1 u35.2.2.2.2.1, e_ar a n cI 15 mc, e_ar a n cI 16 u1.2, e_ar a n cI 17 u46.2]) (wr := [e_ar a n cI 15 mc, e_ar a n cI 16 u1.2]) (As := [.int (u25.1 + 4)]) (rest := []) E hw (c_Mod_check (l := l) (dC := dC) (dI := dI) (cI := cI) (tb := tb) (a := a) (n := n) (Mod_thrown := 0) (Mod_width := Mod_width) (Mod_height := Mod_height) (Mod_many := u1.1) (Mod_size := u37.1) (Mod_bit := u35.2.1) (Mod_single := u35.2.2.1) (Mod_runs := u35.2.2.2.1) (Mod_longest := u35.2.2.2.2.1) (mf := f45) (x1 := u25.1 + 4) h) tw518 tw520 tw22 tw42 tw521 1 (by decide) ⟨Nat.le_of_ble_eq_true rfl, Nat.le_of_ble_eq_true rfl⟩ ⟨Nat.le_of_ble_eq_true rfl, Nat.le_of_ble_eq_true rfl⟩ ⟨rfl, rfl⟩ rfl rfl 0 rfl [0, 3] [1, 2] [2, 0, 1, 3] rfl rfl rfl rfl (by decide) rfl (fun _ => rfl) hl.1 rfl rfl (Nat.le_of_ble_eq_true rfl) d_Mod_put_205 (fun u46 H locs h hw => ?_)
  refine lv_aload_n hx hb d_Mod_put_208 rfl (lv_at hl 2 rfl) ?_
  refine lv_iconst (v := 0) hx hb d_Mod_put_209 (by decide) ?_
  refine kVv (y := y_Mod_four) (ws' := fun u48 => [e_Mod a 0 Mod_width Mod_height u1.1 u48.1 u35.2.1 u35.2.2.1 u35.2.2.2.1 u35.2.2.2.2.1, e_ar a n cI 15 mc, e_ar a n cI 16 u1.2, e_ar a n cI 17 u48.2]) (wr := [e_ar a n cI 15 mc, e_ar a n cI 16 u1.2]) (As := [.int 0]) (rest := []) E hw (c_Mod_four (l := l) (dC := dC) (dI := dI) (cI := cI) (tb := tb) (a := a) (n := n) (Mod_thrown := 0) (Mod_width := Mod_width) (Mod_height := Mod_height) (Mod_many := u1.1) (Mod_size := u46.1) (Mod_bit := u35.2.1) (Mod_single := u35.2.2.1) (Mod_runs := u35.2.2.2.1) (Mod_longest := u35.2.2.2.2.1) (mf := u46.2) (x1 := 0) h) tw514 tw516 tw21 tw42 tw517 1 (by decide) ⟨Nat.le_of_ble_eq_true rfl, Nat.le_of_ble_eq_true rfl⟩ ⟨Nat.le_of_ble_eq_true rfl, Nat.le_of_ble_eq_true rfl⟩ ⟨rfl, rfl⟩ rfl rfl 0 rfl [0, 3] [1, 2] [2, 0, 1, 3] rfl rfl rfl rfl (by decide) rfl (fun _ => rfl) hl.1 rfl rfl (Nat.le_of_ble_eq_true rfl) d_Mod_put_210 (fun u48 H locs h hw => ?_)
  refine lv_aload_n hx hb d_Mod_put_213 rfl (lv_at hl 2 rfl) ?_
  refine lv_bipush (v := 73) hx hb d_Mod_put_214 (by decide) ?_
  refine lv_bipush (v := 69) hx hb d_Mod_put_216 (by decide) ?_
  refine lv_bipush (v := 78) hx hb d_Mod_put_218 (by decide) ?_
  refine lv_bipush (v := 68) hx hb d_Mod_put_220 (by decide) ?_
  refine kVv (y := y_Mod_name) (ws' := fun u50 => [e_Mod a 0 Mod_width Mod_height u1.1 u50.1 u35.2.1 u35.2.2.1 u35.2.2.2.1 u35.2.2.2.2.1, e_ar a n cI 15 mc, e_ar a n cI 16 u1.2, e_ar a n cI 17 u50.2]) (wr := [e_ar a n cI 15 mc, e_ar a n cI 16 u1.2]) (As := [.int 73, .int 69, .int 78, .int 68]) (rest := []) E hw (c_Mod_name (l := l) (dC := dC) (dI := dI) (cI := cI) (tb := tb) (a := a) (n := n) (Mod_thrown := 0) (Mod_width := Mod_width) (Mod_height := Mod_height) (Mod_many := u1.1) (Mod_size := u48.1) (Mod_bit := u35.2.1) (Mod_single := u35.2.2.1) (Mod_runs := u35.2.2.2.1) (Mod_longest := u35.2.2.2.2.1) (mf := u48.2) (x1 := 73) (x2 := 69) (x3 := 78) (x4 := 68) h) tw506 tw508 tw19 tw42 tw509 4 (by decide) ⟨Nat.le_of_ble_eq_true rfl, Nat.le_of_ble_eq_true rfl⟩ ⟨Nat.le_of_ble_eq_true rfl, Nat.le_of_ble_eq_true rfl⟩ ⟨rfl, rfl⟩ rfl rfl 0 rfl [0, 3] [1, 2] [2, 0, 1, 3] rfl rfl rfl rfl (by decide) rfl (fun _ => rfl) hl.1 rfl rfl (Nat.le_of_ble_eq_true rfl) d_Mod_put_222 (fun u50 H locs h hw => ?_)
  refine lv_aload_n hx hb d_Mod_put_225 rfl (lv_at hl 2 rfl) ?_
  refine lv_aload_n hx hb d_Mod_put_226 rfl (lv_at hl 2 rfl) ?_
  refine kget (v := .int u50.1) (T := F_Mod) E hw in_Mod rfl 0 7 rfl (by decide) tw436 rfl d_Mod_put_227 ?_
  refine lv_iconst (v := 4) hx hb d_Mod_put_230 (by decide) ?_
  refine lv_isub hx hb d_Mod_put_231 ?_
  refine kVv (y := y_Mod_check) (ws' := fun u52 => [e_Mod a 0 Mod_width Mod_height u1.1 u52.1 u35.2.1 u35.2.2.1 u35.2.2.2.1 u35.2.2.2.2.1, e_ar a n cI 15 mc, e_ar a n cI 16 u1.2, e_ar a n cI 17 u52.2]) (wr := [e_ar a n cI 15 mc, e_ar a n cI 16 u1.2]) (As := [.int (u50.1 - 4)]) (rest := []) E hw (c_Mod_check (l := l) (dC := dC) (dI := dI) (cI := cI) (tb := tb) (a := a) (n := n) (Mod_thrown := 0) (Mod_width := Mod_width) (Mod_height := Mod_height) (Mod_many := u1.1) (Mod_size := u50.1) (Mod_bit := u35.2.1) (Mod_single := u35.2.2.1) (Mod_runs := u35.2.2.2.1) (Mod_longest := u35.2.2.2.2.1) (mf := u50.2) (x1 := u50.1 - 4) h) tw518 tw520 tw22 tw42 tw521 1 (by decide) ⟨Nat.le_of_ble_eq_true rfl, Nat.le_of_ble_eq_true rfl⟩ ⟨Nat.le_of_ble_eq_true rfl, Nat.le_of_ble_eq_true rfl⟩ ⟨rfl, rfl⟩ rfl rfl 0 rfl [0, 3] [1, 2] [2, 0, 1, 3] rfl rfl rfl rfl (by decide) rfl (fun _ => rfl) hl.1 rfl rfl (Nat.le_of_ble_eq_true rfl) d_Mod_put_232 (fun u52 H locs h hw => ?_)
  refine lv_aload_n hx hb d_Mod_put_235 rfl (lv_at hl 2 rfl) ?_
  refine kget (v := .int u52.1) (T := F_Mod) E hw in_Mod rfl 0 7 rfl (by decide) tw436 rfl d_Mod_put_236 ?_
  exact retI (out := fun u => [e_Mod a u.1 Mod_width Mod_height u.2.1 u.2.2.1 u.2.2.2.1 u.2.2.2.2.1 u.2.2.2.2.2.1 u.2.2.2.2.2.2.1, e_ar a n cI 15 mc, e_ar a n cI 16 u.2.2.2.2.2.2.2.1, e_ar a n cI 17 u.2.2.2.2.2.2.2.2]) (u := (0, u1.1, u52.1, u35.2.1, u35.2.2.1, u35.2.2.2.1, u35.2.2.2.2.1, u1.2, u52.2)) E hr hlk rfl hw h d_Mod_put_239
-- PicturePackerModel.byteAt(I)I
theorem d_Mod_byteAt_0 : decode prog_9_method_26_code 0 = .ok (.aload_n 0, 1) := by decide +kernel
theorem d_Mod_byteAt_1 : decode prog_9_method_26_code 1 = .ok (.iconst 0, 1) := by decide +kernel
theorem d_Mod_byteAt_2 : decode prog_9_method_26_code 2 = .ok (.putfield 26, 3) := by decide +kernel
theorem d_Mod_byteAt_5 : decode prog_9_method_26_code 5 = .ok (.iload_n 1, 1) := by decide +kernel
theorem d_Mod_byteAt_6 : decode prog_9_method_26_code 6 = .ok (.ifCond .lt 11, 3) := by decide +kernel
theorem d_Mod_byteAt_9 : decode prog_9_method_26_code 9 = .ok (.iload_n 1, 1) := by decide +kernel
theorem d_Mod_byteAt_10 : decode prog_9_method_26_code 10 = .ok (.aload_n 0, 1) := by decide +kernel
theorem d_Mod_byteAt_11 : decode prog_9_method_26_code 11 = .ok (.getfield 51, 3) := by decide +kernel
theorem d_Mod_byteAt_14 : decode prog_9_method_26_code 14 = .ok (.if_icmp .lt 7, 3) := by decide +kernel
theorem d_Mod_byteAt_17 : decode prog_9_method_26_code 17 = .ok (.iconst (-1), 1) := by decide +kernel
theorem d_Mod_byteAt_18 : decode prog_9_method_26_code 18 = .ok (.goto 9, 3) := by decide +kernel
theorem d_Mod_byteAt_21 : decode prog_9_method_26_code 21 = .ok (.aload_n 0, 1) := by decide +kernel
theorem d_Mod_byteAt_22 : decode prog_9_method_26_code 22 = .ok (.getfield 16, 3) := by decide +kernel
theorem d_Mod_byteAt_25 : decode prog_9_method_26_code 25 = .ok (.iload_n 1, 1) := by decide +kernel
theorem d_Mod_byteAt_26 : decode prog_9_method_26_code 26 = .ok (.iaload, 1) := by decide +kernel
theorem d_Mod_byteAt_27 : decode prog_9_method_26_code 27 = .ok (.ireturn, 1) := by decide +kernel
abbrev y_Mod_byteAt : MethodName := ⟨"PicturePackerModel", "byteAt", "(I)I"⟩
def wp_Mod_byteAt (n : Nat → Nat) (Mod_thrown : Int32) (Mod_size : Int32) (mf : Nat → Int32) (x1 : Int32) (post : Int32 → Int32 → Prop) : Prop := ((x1 : Int32) < 0 → (post ((-1)) 0)) ∧ (¬ ((x1 : Int32) < 0) → (((x1 : Int32) < Mod_size → (vp_in x1 (n 17) ∧ (post (mf (x1 : Int32).toNatClampNeg) 0))) ∧ (¬ ((x1 : Int32) < Mod_size) → (post ((-1)) 0))))
set_option maxHeartbeats 2000000 in
set_option maxRecDepth 20000 in
theorem c_Mod_byteAt {l : Launch} {dC : Nat → ClassId} {dI : Nat → Nat → Nat} {cI : ClassId} {tb : Tbs} {a n : Nat → Nat} {Mod_thrown : Int32} {Mod_width : Int32} {Mod_height : Int32} {Mod_many : Int32} {Mod_size : Int32} {Mod_bit : Int32} {Mod_single : Int32} {Mod_runs : Int32} {Mod_longest : Int32} {mf : Nat → Int32} {x1 : Int32} {post : Int32 → Int32 → Prop} (h : wp_Mod_byteAt n Mod_thrown Mod_size mf x1 post) : CtI classes dC dI cI tb l y_Mod_byteAt prog_9_method_26_code 2 .int ({ frames := 0, cells := 0, slots := 0, locals := 0 }) [.ref (a 7), .int x1] [e_Mod a Mod_thrown Mod_width Mod_height Mod_many Mod_size Mod_bit Mod_single Mod_runs Mod_longest, e_ar a n cI 17 mf] (Int32) (fun u => [e_Mod a u Mod_width Mod_height Mod_many Mod_size Mod_bit Mod_single Mod_runs Mod_longest, e_ar a n cI 17 mf]) post := by
  refine startI (by decide) (Nat.le_of_ble_eq_true rfl) ?_
  intro p e s m below meth c ls E hr hlk hnm hl hw
  have hl : lv_has ls 2 [(0, .ref (a 7)), (1, .int x1)] := hl
  generalize va_A [e_Mod a Mod_thrown Mod_width Mod_height Mod_many Mod_size Mod_bit Mod_single Mod_runs Mod_longest, e_ar a n cI 17 mf] s.heap.size = A at hw ⊢
  obtain ⟨hx, hb, hml, hown, hts⟩ := id E
  unfold wp_Mod_byteAt at h
  refine lv_aload_n hx hb d_Mod_byteAt_0 rfl (lv_at hl 0 rfl) ?_
  refine lv_iconst (v := 0) hx hb d_Mod_byteAt_1 (by decide) ?_
  refine kput (v := .int 0) (ty := .int) (T := F_Mod) (ws' := [e_Mod a 0 Mod_width Mod_height Mod_many Mod_size Mod_bit Mod_single Mod_runs Mod_longest, e_ar a n cI 17 mf]) E hw in_Mod t_Mod t_Mod_ok n_Mod rfl 0 0 rfl (by decide) tw429 rfl rfl rfl rfl (Nat.le_of_ble_eq_true rfl) rfl d_Mod_byteAt_2 (fun H locs hw => ?_)
  refine lv_iload_n hx hb d_Mod_byteAt_5 rfl (lv_at hl 1 rfl) ?_
  refine lv_if_lt (tgt := 17) hx hb d_Mod_byteAt_6 (by decide) (fun c1 => ?_) (fun c1 => ?_)
  · have h := h.1 c1
    refine lv_iconst (v := (-1)) hx hb d_Mod_byteAt_17 (by decide) ?_
    refine lv_goto (tgt := 27) hx hb d_Mod_byteAt_18 (by decide) ?_
    exact retI (out := fun u => [e_Mod a u Mod_width Mod_height Mod_many Mod_size Mod_bit Mod_single Mod_runs Mod_longest, e_ar a n cI 17 mf]) (u := 0) E hr hlk rfl hw h d_Mod_byteAt_27
  · have h := h.2 c1
    refine lv_iload_n hx hb d_Mod_byteAt_9 rfl (lv_at hl 1 rfl) ?_
    refine lv_aload_n hx hb d_Mod_byteAt_10 rfl (lv_at hl 0 rfl) ?_
    refine kget (v := .int Mod_size) (T := F_Mod) E hw in_Mod rfl 0 7 rfl (by decide) tw436 rfl d_Mod_byteAt_11 ?_
    refine lv_icmp_lt (tgt := 21) hx hb d_Mod_byteAt_14 (by decide) (fun c2 => ?_) (fun c2 => ?_)
    · have h := h.1 c2
      refine lv_aload_n hx hb d_Mod_byteAt_21 rfl (lv_at hl 0 rfl) ?_
      refine kget (v := .ref (a 17)) (T := F_Mod) E hw in_Mod rfl 0 6 rfl (by decide) tw435 rfl d_Mod_byteAt_22 ?_
      refine lv_iload_n hx hb d_Mod_byteAt_25 rfl (lv_at hl 1 rfl) ?_
      obtain ⟨b3, h⟩ := h
      refine kald E hw 1 rfl b3 d_Mod_byteAt_26 ?_
      exact retI (out := fun u => [e_Mod a u Mod_width Mod_height Mod_many Mod_size Mod_bit Mod_single Mod_runs Mod_longest, e_ar a n cI 17 mf]) (u := 0) E hr hlk rfl hw h d_Mod_byteAt_27
    · have h := h.2 c2
      refine lv_iconst (v := (-1)) hx hb d_Mod_byteAt_17 (by decide) ?_
      refine lv_goto (tgt := 27) hx hb d_Mod_byteAt_18 (by decide) ?_
      exact retI (out := fun u => [e_Mod a u Mod_width Mod_height Mod_many Mod_size Mod_bit Mod_single Mod_runs Mod_longest, e_ar a n cI 17 mf]) (u := 0) E hr hlk rfl hw h d_Mod_byteAt_27
-- PicturePackerModel.filter(I)I
theorem d_Mod_filter_0 : decode prog_9_method_27_code 0 = .ok (.aload_n 0, 1) := by decide +kernel
theorem d_Mod_filter_1 : decode prog_9_method_27_code 1 = .ok (.iconst 0, 1) := by decide +kernel
theorem d_Mod_filter_2 : decode prog_9_method_27_code 2 = .ok (.putfield 26, 3) := by decide +kernel
theorem d_Mod_filter_5 : decode prog_9_method_27_code 5 = .ok (.aload_n 0, 1) := by decide +kernel
theorem d_Mod_filter_6 : decode prog_9_method_27_code 6 = .ok (.getfield 51, 3) := by decide +kernel
theorem d_Mod_filter_9 : decode prog_9_method_27_code 9 = .ok (.ifCond .eq 15, 3) := by decide +kernel
theorem d_Mod_filter_12 : decode prog_9_method_27_code 12 = .ok (.iload_n 1, 1) := by decide +kernel
theorem d_Mod_filter_13 : decode prog_9_method_27_code 13 = .ok (.ifCond .lt 11, 3) := by decide +kernel
theorem d_Mod_filter_16 : decode prog_9_method_27_code 16 = .ok (.iload_n 1, 1) := by decide +kernel
theorem d_Mod_filter_17 : decode prog_9_method_27_code 17 = .ok (.aload_n 0, 1) := by decide +kernel
theorem d_Mod_filter_18 : decode prog_9_method_27_code 18 = .ok (.getfield 23, 3) := by decide +kernel
theorem d_Mod_filter_21 : decode prog_9_method_27_code 21 = .ok (.if_icmp .lt 7, 3) := by decide +kernel
theorem d_Mod_filter_24 : decode prog_9_method_27_code 24 = .ok (.iconst (-1), 1) := by decide +kernel
theorem d_Mod_filter_25 : decode prog_9_method_27_code 25 = .ok (.goto 18, 3) := by decide +kernel
theorem d_Mod_filter_28 : decode prog_9_method_27_code 28 = .ok (.aload_n 0, 1) := by decide +kernel
theorem d_Mod_filter_29 : decode prog_9_method_27_code 29 = .ok (.getfield 13, 3) := by decide +kernel
theorem d_Mod_filter_32 : decode prog_9_method_27_code 32 = .ok (.iconst 1, 1) := by decide +kernel
theorem d_Mod_filter_33 : decode prog_9_method_27_code 33 = .ok (.iconst 3, 1) := by decide +kernel
theorem d_Mod_filter_34 : decode prog_9_method_27_code 34 = .ok (.aload_n 0, 1) := by decide +kernel
theorem d_Mod_filter_35 : decode prog_9_method_27_code 35 = .ok (.getfield 19, 3) := by decide +kernel
theorem d_Mod_filter_38 : decode prog_9_method_27_code 38 = .ok (.imul, 1) := by decide +kernel
theorem d_Mod_filter_39 : decode prog_9_method_27_code 39 = .ok (.iadd, 1) := by decide +kernel
theorem d_Mod_filter_40 : decode prog_9_method_27_code 40 = .ok (.iload_n 1, 1) := by decide +kernel
theorem d_Mod_filter_41 : decode prog_9_method_27_code 41 = .ok (.imul, 1) := by decide +kernel
theorem d_Mod_filter_42 : decode prog_9_method_27_code 42 = .ok (.iaload, 1) := by decide +kernel
theorem d_Mod_filter_43 : decode prog_9_method_27_code 43 = .ok (.ireturn, 1) := by decide +kernel
abbrev y_Mod_filter : MethodName := ⟨"PicturePackerModel", "filter", "(I)I"⟩
def wp_Mod_filter (n : Nat → Nat) (Mod_thrown : Int32) (Mod_width : Int32) (Mod_height : Int32) (Mod_size : Int32) (mr : Nat → Int32) (x1 : Int32) (post : Int32 → Int32 → Prop) : Prop := ((Mod_size : Int32) = 0 → (post ((-1)) 0)) ∧ (¬ ((Mod_size : Int32) = 0) → (((x1 : Int32) < 0 → (post ((-1)) 0)) ∧ (¬ ((x1 : Int32) < 0) → (((x1 : Int32) < Mod_height → (vp_in ((1 + (3 * Mod_width)) * x1) (n 16) ∧ (post (mr ((1 + (3 * Mod_width)) * x1 : Int32).toNatClampNeg) 0))) ∧ (¬ ((x1 : Int32) < Mod_height) → (post ((-1)) 0))))))
set_option maxHeartbeats 2000000 in
set_option maxRecDepth 20000 in
theorem c_Mod_filter {l : Launch} {dC : Nat → ClassId} {dI : Nat → Nat → Nat} {cI : ClassId} {tb : Tbs} {a n : Nat → Nat} {Mod_thrown : Int32} {Mod_width : Int32} {Mod_height : Int32} {Mod_many : Int32} {Mod_size : Int32} {Mod_bit : Int32} {Mod_single : Int32} {Mod_runs : Int32} {Mod_longest : Int32} {mr : Nat → Int32} {x1 : Int32} {post : Int32 → Int32 → Prop} (h : wp_Mod_filter n Mod_thrown Mod_width Mod_height Mod_size mr x1 post) : CtI classes dC dI cI tb l y_Mod_filter prog_9_method_27_code 2 .int ({ frames := 0, cells := 0, slots := 0, locals := 0 }) [.ref (a 7), .int x1] [e_Mod a Mod_thrown Mod_width Mod_height Mod_many Mod_size Mod_bit Mod_single Mod_runs Mod_longest, e_ar a n cI 16 mr] (Int32) (fun u => [e_Mod a u Mod_width Mod_height Mod_many Mod_size Mod_bit Mod_single Mod_runs Mod_longest, e_ar a n cI 16 mr]) post := by
  refine startI (by decide) (Nat.le_of_ble_eq_true rfl) ?_
  intro p e s m below meth c ls E hr hlk hnm hl hw
  have hl : lv_has ls 2 [(0, .ref (a 7)), (1, .int x1)] := hl
  generalize va_A [e_Mod a Mod_thrown Mod_width Mod_height Mod_many Mod_size Mod_bit Mod_single Mod_runs Mod_longest, e_ar a n cI 16 mr] s.heap.size = A at hw ⊢
  obtain ⟨hx, hb, hml, hown, hts⟩ := id E
  unfold wp_Mod_filter at h
  refine lv_aload_n hx hb d_Mod_filter_0 rfl (lv_at hl 0 rfl) ?_
  refine lv_iconst (v := 0) hx hb d_Mod_filter_1 (by decide) ?_
  refine kput (v := .int 0) (ty := .int) (T := F_Mod) (ws' := [e_Mod a 0 Mod_width Mod_height Mod_many Mod_size Mod_bit Mod_single Mod_runs Mod_longest, e_ar a n cI 16 mr]) E hw in_Mod t_Mod t_Mod_ok n_Mod rfl 0 0 rfl (by decide) tw429 rfl rfl rfl rfl (Nat.le_of_ble_eq_true rfl) rfl d_Mod_filter_2 (fun H locs hw => ?_)
  refine lv_aload_n hx hb d_Mod_filter_5 rfl (lv_at hl 0 rfl) ?_
  refine kget (v := .int Mod_size) (T := F_Mod) E hw in_Mod rfl 0 7 rfl (by decide) tw436 rfl d_Mod_filter_6 ?_
  refine lv_if_eq (tgt := 24) hx hb d_Mod_filter_9 (by decide) (fun c1 => ?_) (fun c1 => ?_)
  · have h := h.1 c1
    refine lv_iconst (v := (-1)) hx hb d_Mod_filter_24 (by decide) ?_
    refine lv_goto (tgt := 43) hx hb d_Mod_filter_25 (by decide) ?_
    exact retI (out := fun u => [e_Mod a u Mod_width Mod_height Mod_many Mod_size Mod_bit Mod_single Mod_runs Mod_longest, e_ar a n cI 16 mr]) (u := 0) E hr hlk rfl hw h d_Mod_filter_43
  · have h := h.2 c1
    refine lv_iload_n hx hb d_Mod_filter_12 rfl (lv_at hl 1 rfl) ?_
    refine lv_if_lt (tgt := 24) hx hb d_Mod_filter_13 (by decide) (fun c2 => ?_) (fun c2 => ?_)
    · have h := h.1 c2
      refine lv_iconst (v := (-1)) hx hb d_Mod_filter_24 (by decide) ?_
      refine lv_goto (tgt := 43) hx hb d_Mod_filter_25 (by decide) ?_
      exact retI (out := fun u => [e_Mod a u Mod_width Mod_height Mod_many Mod_size Mod_bit Mod_single Mod_runs Mod_longest, e_ar a n cI 16 mr]) (u := 0) E hr hlk rfl hw h d_Mod_filter_43
    · have h := h.2 c2
      refine lv_iload_n hx hb d_Mod_filter_16 rfl (lv_at hl 1 rfl) ?_
      refine lv_aload_n hx hb d_Mod_filter_17 rfl (lv_at hl 0 rfl) ?_
      refine kget (v := .int Mod_height) (T := F_Mod) E hw in_Mod rfl 0 2 rfl (by decide) tw431 rfl d_Mod_filter_18 ?_
      refine lv_icmp_lt (tgt := 28) hx hb d_Mod_filter_21 (by decide) (fun c3 => ?_) (fun c3 => ?_)
      · have h := h.1 c3
        refine lv_aload_n hx hb d_Mod_filter_28 rfl (lv_at hl 0 rfl) ?_
        refine kget (v := .ref (a 16)) (T := F_Mod) E hw in_Mod rfl 0 4 rfl (by decide) tw433 rfl d_Mod_filter_29 ?_
        refine lv_iconst (v := 1) hx hb d_Mod_filter_32 (by decide) ?_
        refine lv_iconst (v := 3) hx hb d_Mod_filter_33 (by decide) ?_
        refine lv_aload_n hx hb d_Mod_filter_34 rfl (lv_at hl 0 rfl) ?_
        refine kget (v := .int Mod_width) (T := F_Mod) E hw in_Mod rfl 0 1 rfl (by decide) tw430 rfl d_Mod_filter_35 ?_
        refine lv_imul hx hb d_Mod_filter_38 ?_
        refine lv_iadd hx hb d_Mod_filter_39 ?_
        refine lv_iload_n hx hb d_Mod_filter_40 rfl (lv_at hl 1 rfl) ?_
        refine lv_imul hx hb d_Mod_filter_41 ?_
        obtain ⟨b4, h⟩ := h
        refine kald E hw 1 rfl b4 d_Mod_filter_42 ?_
        exact retI (out := fun u => [e_Mod a u Mod_width Mod_height Mod_many Mod_size Mod_bit Mod_single Mod_runs Mod_longest, e_ar a n cI 16 mr]) (u := 0) E hr hlk rfl hw h d_Mod_filter_43
      · have h := h.2 c3
        refine lv_iconst (v := (-1)) hx hb d_Mod_filter_24 (by decide) ?_
        refine lv_goto (tgt := 43) hx hb d_Mod_filter_25 (by decide) ?_
        exact retI (out := fun u => [e_Mod a u Mod_width Mod_height Mod_many Mod_size Mod_bit Mod_single Mod_runs Mod_longest, e_ar a n cI 16 mr]) (u := 0) E hr hlk rfl hw h d_Mod_filter_43
-- PicturePackerModel.count(I)I
theorem d_Mod_count_0 : decode prog_9_method_28_code 0 = .ok (.aload_n 0, 1) := by decide +kernel
theorem d_Mod_count_1 : decode prog_9_method_28_code 1 = .ok (.iconst 0, 1) := by decide +kernel
theorem d_Mod_count_2 : decode prog_9_method_28_code 2 = .ok (.putfield 26, 3) := by decide +kernel
theorem d_Mod_count_5 : decode prog_9_method_28_code 5 = .ok (.iload_n 1, 1) := by decide +kernel
theorem d_Mod_count_6 : decode prog_9_method_28_code 6 = .ok (.tableswitch 68 0 5 #[38, 43, 48, 53, 58, 63], 38) := by decide +kernel
theorem d_Mod_count_44 : decode prog_9_method_28_code 44 = .ok (.aload_n 0, 1) := by decide +kernel
theorem d_Mod_count_45 : decode prog_9_method_28_code 45 = .ok (.getfield 51, 3) := by decide +kernel
theorem d_Mod_count_48 : decode prog_9_method_28_code 48 = .ok (.ireturn, 1) := by decide +kernel
theorem d_Mod_count_49 : decode prog_9_method_28_code 49 = .ok (.aload_n 0, 1) := by decide +kernel
theorem d_Mod_count_50 : decode prog_9_method_28_code 50 = .ok (.getfield 94, 3) := by decide +kernel
theorem d_Mod_count_53 : decode prog_9_method_28_code 53 = .ok (.ireturn, 1) := by decide +kernel
theorem d_Mod_count_54 : decode prog_9_method_28_code 54 = .ok (.aload_n 0, 1) := by decide +kernel
theorem d_Mod_count_55 : decode prog_9_method_28_code 55 = .ok (.getfield 88, 3) := by decide +kernel
theorem d_Mod_count_58 : decode prog_9_method_28_code 58 = .ok (.ireturn, 1) := by decide +kernel
theorem d_Mod_count_59 : decode prog_9_method_28_code 59 = .ok (.aload_n 0, 1) := by decide +kernel
theorem d_Mod_count_60 : decode prog_9_method_28_code 60 = .ok (.getfield 91, 3) := by decide +kernel
theorem d_Mod_count_63 : decode prog_9_method_28_code 63 = .ok (.ireturn, 1) := by decide +kernel
theorem d_Mod_count_64 : decode prog_9_method_28_code 64 = .ok (.aload_n 0, 1) := by decide +kernel
theorem d_Mod_count_65 : decode prog_9_method_28_code 65 = .ok (.getfield 19, 3) := by decide +kernel
theorem d_Mod_count_68 : decode prog_9_method_28_code 68 = .ok (.ireturn, 1) := by decide +kernel
theorem d_Mod_count_69 : decode prog_9_method_28_code 69 = .ok (.aload_n 0, 1) := by decide +kernel
theorem d_Mod_count_70 : decode prog_9_method_28_code 70 = .ok (.getfield 23, 3) := by decide +kernel
theorem d_Mod_count_73 : decode prog_9_method_28_code 73 = .ok (.ireturn, 1) := by decide +kernel
theorem d_Mod_count_74 : decode prog_9_method_28_code 74 = .ok (.iconst (-1), 1) := by decide +kernel
theorem d_Mod_count_75 : decode prog_9_method_28_code 75 = .ok (.ireturn, 1) := by decide +kernel
abbrev y_Mod_count : MethodName := ⟨"PicturePackerModel", "count", "(I)I"⟩
def wp_Mod_count (n : Nat → Nat) (Mod_thrown : Int32) (Mod_width : Int32) (Mod_height : Int32) (Mod_size : Int32) (Mod_single : Int32) (Mod_runs : Int32) (Mod_longest : Int32) (x1 : Int32) (post : Int32 → Int32 → Prop) : Prop := ((x1 : Int32) = 0 → (post Mod_size 0)) ∧ ((x1 : Int32) = 1 → (post Mod_single 0)) ∧ ((x1 : Int32) = 2 → (post Mod_runs 0)) ∧ ((x1 : Int32) = 3 → (post Mod_longest 0)) ∧ ((x1 : Int32) = 4 → (post Mod_width 0)) ∧ ((x1 : Int32) = 5 → (post Mod_height 0)) ∧ (¬ (x1 : Int32) = 0 → ¬ (x1 : Int32) = 1 → ¬ (x1 : Int32) = 2 → ¬ (x1 : Int32) = 3 → ¬ (x1 : Int32) = 4 → ¬ (x1 : Int32) = 5 → (post ((-1)) 0))
set_option maxHeartbeats 2000000 in
set_option maxRecDepth 20000 in
theorem c_Mod_count {l : Launch} {dC : Nat → ClassId} {dI : Nat → Nat → Nat} {cI : ClassId} {tb : Tbs} {a n : Nat → Nat} {Mod_thrown : Int32} {Mod_width : Int32} {Mod_height : Int32} {Mod_many : Int32} {Mod_size : Int32} {Mod_bit : Int32} {Mod_single : Int32} {Mod_runs : Int32} {Mod_longest : Int32} {x1 : Int32} {post : Int32 → Int32 → Prop} (h : wp_Mod_count n Mod_thrown Mod_width Mod_height Mod_size Mod_single Mod_runs Mod_longest x1 post) : CtI classes dC dI cI tb l y_Mod_count prog_9_method_28_code 2 .int ({ frames := 0, cells := 0, slots := 0, locals := 0 }) [.ref (a 7), .int x1] [e_Mod a Mod_thrown Mod_width Mod_height Mod_many Mod_size Mod_bit Mod_single Mod_runs Mod_longest] (Int32) (fun u => [e_Mod a u Mod_width Mod_height Mod_many Mod_size Mod_bit Mod_single Mod_runs Mod_longest]) post := by
  refine startI (by decide) (Nat.le_of_ble_eq_true rfl) ?_
  intro p e s m below meth c ls E hr hlk hnm hl hw
  have hl : lv_has ls 2 [(0, .ref (a 7)), (1, .int x1)] := hl
  generalize va_A [e_Mod a Mod_thrown Mod_width Mod_height Mod_many Mod_size Mod_bit Mod_single Mod_runs Mod_longest] s.heap.size = A at hw ⊢
  obtain ⟨hx, hb, hml, hown, hts⟩ := id E
  unfold wp_Mod_count at h
  refine lv_aload_n hx hb d_Mod_count_0 rfl (lv_at hl 0 rfl) ?_
  refine lv_iconst (v := 0) hx hb d_Mod_count_1 (by decide) ?_
  refine kput (v := .int 0) (ty := .int) (T := F_Mod) (ws' := [e_Mod a 0 Mod_width Mod_height Mod_many Mod_size Mod_bit Mod_single Mod_runs Mod_longest]) E hw in_Mod t_Mod t_Mod_ok n_Mod rfl 0 0 rfl (by decide) tw429 rfl rfl rfl rfl (Nat.le_of_ble_eq_true rfl) rfl d_Mod_count_2 (fun H locs hw => ?_)
  refine lv_iload_n hx hb d_Mod_count_5 rfl (lv_at hl 1 rfl) ?_
  by_cases c1 : (x1 : Int32) = 0
  · have h := h.1 c1
    refine lv_tableIn (tgt := 44) (off := 38) hx hb d_Mod_count_6 (by rw [c1]; decide) (by rw [c1]; decide) (by rw [c1]; decide) (by decide) ?_
    refine lv_aload_n hx hb d_Mod_count_44 rfl (lv_at hl 0 rfl) ?_
    refine kget (v := .int Mod_size) (T := F_Mod) E hw in_Mod rfl 0 7 rfl (by decide) tw436 rfl d_Mod_count_45 ?_
    exact retI (out := fun u => [e_Mod a u Mod_width Mod_height Mod_many Mod_size Mod_bit Mod_single Mod_runs Mod_longest]) (u := 0) E hr hlk rfl hw h d_Mod_count_48
  · skip
    by_cases c2 : (x1 : Int32) = 1
    · have h := h.2.1 c2
      refine lv_tableIn (tgt := 49) (off := 43) hx hb d_Mod_count_6 (by rw [c2]; decide) (by rw [c2]; decide) (by rw [c2]; decide) (by decide) ?_
      refine lv_aload_n hx hb d_Mod_count_49 rfl (lv_at hl 0 rfl) ?_
      refine kget (v := .int Mod_single) (T := F_Mod) E hw in_Mod rfl 0 9 rfl (by decide) tw438 rfl d_Mod_count_50 ?_
      exact retI (out := fun u => [e_Mod a u Mod_width Mod_height Mod_many Mod_size Mod_bit Mod_single Mod_runs Mod_longest]) (u := 0) E hr hlk rfl hw h d_Mod_count_53
    · skip
      by_cases c3 : (x1 : Int32) = 2
      · have h := h.2.2.1 c3
        refine lv_tableIn (tgt := 54) (off := 48) hx hb d_Mod_count_6 (by rw [c3]; decide) (by rw [c3]; decide) (by rw [c3]; decide) (by decide) ?_
        refine lv_aload_n hx hb d_Mod_count_54 rfl (lv_at hl 0 rfl) ?_
        refine kget (v := .int Mod_runs) (T := F_Mod) E hw in_Mod rfl 0 10 rfl (by decide) tw439 rfl d_Mod_count_55 ?_
        exact retI (out := fun u => [e_Mod a u Mod_width Mod_height Mod_many Mod_size Mod_bit Mod_single Mod_runs Mod_longest]) (u := 0) E hr hlk rfl hw h d_Mod_count_58
      · skip
        by_cases c4 : (x1 : Int32) = 3
        · have h := h.2.2.2.1 c4
          refine lv_tableIn (tgt := 59) (off := 53) hx hb d_Mod_count_6 (by rw [c4]; decide) (by rw [c4]; decide) (by rw [c4]; decide) (by decide) ?_
          refine lv_aload_n hx hb d_Mod_count_59 rfl (lv_at hl 0 rfl) ?_
          refine kget (v := .int Mod_longest) (T := F_Mod) E hw in_Mod rfl 0 11 rfl (by decide) tw440 rfl d_Mod_count_60 ?_
          exact retI (out := fun u => [e_Mod a u Mod_width Mod_height Mod_many Mod_size Mod_bit Mod_single Mod_runs Mod_longest]) (u := 0) E hr hlk rfl hw h d_Mod_count_63
        · skip
          by_cases c5 : (x1 : Int32) = 4
          · have h := h.2.2.2.2.1 c5
            refine lv_tableIn (tgt := 64) (off := 58) hx hb d_Mod_count_6 (by rw [c5]; decide) (by rw [c5]; decide) (by rw [c5]; decide) (by decide) ?_
            refine lv_aload_n hx hb d_Mod_count_64 rfl (lv_at hl 0 rfl) ?_
            refine kget (v := .int Mod_width) (T := F_Mod) E hw in_Mod rfl 0 1 rfl (by decide) tw430 rfl d_Mod_count_65 ?_
            exact retI (out := fun u => [e_Mod a u Mod_width Mod_height Mod_many Mod_size Mod_bit Mod_single Mod_runs Mod_longest]) (u := 0) E hr hlk rfl hw h d_Mod_count_68
          · skip
            by_cases c6 : (x1 : Int32) = 5
            · have h := h.2.2.2.2.2.1 c6
              refine lv_tableIn (tgt := 69) (off := 63) hx hb d_Mod_count_6 (by rw [c6]; decide) (by rw [c6]; decide) (by rw [c6]; decide) (by decide) ?_
              refine lv_aload_n hx hb d_Mod_count_69 rfl (lv_at hl 0 rfl) ?_
              refine kget (v := .int Mod_height) (T := F_Mod) E hw in_Mod rfl 0 2 rfl (by decide) tw431 rfl d_Mod_count_70 ?_
              exact retI (out := fun u => [e_Mod a u Mod_width Mod_height Mod_many Mod_size Mod_bit Mod_single Mod_runs Mod_longest]) (u := 0) E hr hlk rfl hw h d_Mod_count_73
            · skip
              have h := h.2.2.2.2.2.2 c1 c2 c3 c4 c5 c6
              have qc1 := lv_neT c1 (a := 0) (by decide)
              have qc2 := lv_neT c2 (a := 1) (by decide)
              have qc3 := lv_neT c3 (a := 2) (by decide)
              have qc4 := lv_neT c4 (a := 3) (by decide)
              have qc5 := lv_neT c5 (a := 4) (by decide)
              have qc6 := lv_neT c6 (a := 5) (by decide)
              refine lv_tableOut (tgt := 74) hx hb d_Mod_count_6 (by omega) (by decide) ?_
              refine lv_iconst (v := (-1)) hx hb d_Mod_count_74 (by decide) ?_
              exact retI (out := fun u => [e_Mod a u Mod_width Mod_height Mod_many Mod_size Mod_bit Mod_single Mod_runs Mod_longest]) (u := 0) E hr hlk rfl hw h d_Mod_count_75
